theorem arrV_congr {cA : ClassId} {N : Nat} {f g : Nat → Value} (h : ∀ j, j < N → f j = g j) : arrV cA N f = arrV cA N g := by
  unfold arrV
  congr 1
  apply Array.ext_getElem?
  intro i
  by_cases hi : i < N
  · simp [hi, h i hi]
  · simp [hi]

set_option maxHeartbeats 8000000 in
set_option maxRecDepth 100000 in
theorem iX1 (l : Launch) (D : va_G) (cI cR : ClassId) (h0 : Nat) : Ki l yX1_init cX1_init 2 { frames := 2, cells := 13, slots := 1026, locals := 80 } D cI cR [.ref h0] h0 (.inr (1, [.null, .int 0, .int 0])) (fun U => va_AO RX3 U) (fun u => [(h0, .inr (1, [.ref (u 1), .int 0, .int 0])), (u 1, .inl (cR, 6, .inr (.inr (.inr (.inr (fun j => some (u (2 + 2 * j)))))))), (u 2, .inr (3, [.ref (u 3)])), (u 3, .inl (cI, 169, .inl (fun _ => 0))), (u 4, .inr (3, [.ref (u 5)])), (u 5, .inl (cI, 169, .inl (fun _ => 0))), (u 6, .inr (3, [.ref (u 7)])), (u 7, .inl (cI, 169, .inl (fun _ => 0))), (u 8, .inr (3, [.ref (u 9)])), (u 9, .inl (cI, 169, .inl (fun _ => 0))), (u 10, .inr (3, [.ref (u 11)])), (u 11, .inl (cI, 169, .inl (fun _ => 0))), (u 12, .inr (3, [.ref (u 13)])), (u 13, .inl (cI, 169, .inl (fun _ => 0)))]) 13 1026 := by
  refine Ki.ofW (by decide) rfl (Nat.le_of_ble_eq_true rfl) ?_
  intro p e s m args below meth c ls A S hr hK hX hP hD hS hA hl
  have hx := S.1
  have hb := S.2.1
  have hl : lv_has ls 2 [(0, .ref h0)] := hl
  refine lv_aload_n hx hb dX1_init_0 rfl (lv_at hl 0 rfl) ?_
  refine W.objInit hx hb S.2.2.2.1 (S.2.2.2.2 _ kX1_3o) (S.2.2.2.2 _ oi_i) (S.2.2.2.2 _ oi_c) rfl (by rw [S.2.2.1]; exact hl.1) rfl dX1_init_1 (Nat.le_of_ble_eq_true rfl) (Nat.le_of_ble_eq_true rfl) ?_
  refine W.eq (g2 := F0 m 4 ls []) rfl ?_
  refine lv_aload_n hx hb dX1_init_4 rfl (lv_at hl 0 rfl) ?_
  refine lv_bipush (v := 6) hx hb dX1_init_5 (by decide) ?_
  refine va_newq (N' := 6) hx hb S.2.2.2.1 (S.2.2.2.2 _ kX1_9c) hX hK hP hD hS hA (by decide) (by decide) (by decide) (Nat.le_of_ble_eq_true rfl) (Nat.le_of_ble_eq_true rfl) dX1_init_7 (fun q cA H hK2 hP hD hS => ?_)
  have ec := cQ_eq hK2
  subst ec
  have hP : va_P D vwCl [(h0, .inr (1, [.null, .int 0, .int 0])), (q, .inl (cA, 6, .inr (.inr (.inr (.inr (fun _ => none))))))] H := hP
  have hD : va_D A [(h0, .inr (1, [.null, .int 0, .int 0])), (q, .inl (cA, 6, .inr (.inr (.inr (.inr (fun _ => none))))))] := hD
  refine va_putF (D := D) (ci := 1) (v := .ref q) (ty := .array (.object RX3)) (C := RX1) (T := TX1) (N := 3) hx hb S.2.2.2.2 iwX1 tyX1 tyX1_ok nmX1 S.2.2.2.1 hK hP hD hS 0 rfl rfl 0 (by decide) (S.2.2.2.2 _ kX1_11) (fun _ h9 => h9) rfl hr.2.2 rfl (by decide +kernel) rfl rfl (Nat.le_of_ble_eq_true rfl) dX1_init_10 (fun H locs hP hD hS => ?_)
  have hP : va_P D vwCl [(h0, .inr (1, [.ref q, .int 0, .int 0])), (q, .inl (cA, 6, .inr (.inr (.inr (.inr (fun _ => none))))))] H := hP
  have hD : va_D A [(h0, .inr (1, [.ref q, .int 0, .int 0])), (q, .inl (cA, 6, .inr (.inr (.inr (.inr (fun _ => none))))))] := hD
  refine lv_iconst (v := 0) hx hb dX1_init_13 (by decide) ?_
  refine lv_istore_n (lv' := [(1, .int 0), (0, .ref h0)]) hx hb dX1_init_14 rfl hl (by decide) rfl (fun ls hl => ?_)
  refine lv_iload_n hx hb dX1_init_15 rfl (lv_at hl 0 rfl) ?_
  refine lv_aload_n hx hb dX1_init_16 rfl (lv_at hl 1 rfl) ?_
  refine va_get (D := D) (ci := 1) (v := .ref q) (C := RX1) (T := TX1) (N := 3) hx hb S.2.2.2.2 iwX1 S.2.2.2.1 hK hP 0 rfl rfl 0 (by decide) (S.2.2.2.2 _ kX1_11) (fun _ h9 => h9) rfl dX1_init_17 ?_
  refine va_alen (v := 6) hx hb hK hP 1 1 rfl rfl rfl dX1_init_20 ?_
  refine lv_icmp_ge (tgt := 46) hx hb dX1_init_21 (by decide) (fun h => absurd h (by decide)) (fun _ => ?_)
  refine lv_aload_n hx hb dX1_init_24 rfl (lv_at hl 1 rfl) ?_
  refine va_get (D := D) (ci := 1) (v := .ref q) (C := RX1) (T := TX1) (N := 3) hx hb S.2.2.2.2 iwX1 S.2.2.2.1 hK hP 0 rfl rfl 0 (by decide) (S.2.2.2.2 _ kX1_11) (fun _ h9 => h9) rfl dX1_init_25 ?_
  refine lv_iload_n hx hb dX1_init_28 rfl (lv_at hl 0 rfl) ?_
  refine va_new (ci := 3) (fs := [.null]) (C := RX3) (T := TX3) (N := 1) hx hb S.2.2.2.2 iwX3 tyX3 tyX3_ok S.2.2.2.1 (S.2.2.2.2 _ kX1_9c) (S.2.2.2.2 _ inX3) (S.2.2.2.2 _ iniX3) hK hP hD hS hA rfl (fun j hj => by rcases (show j = 0 by omega) with rfl <;> rfl) (Nat.le_of_ble_eq_true rfl) (Nat.le_of_ble_eq_true rfl) dX1_init_29 (fun q0 H hP hD hS => ?_)
  refine lv_dup hx hb dX1_init_32 rfl ?_
  refine lv_sipush (v := 169) hx hb dX1_init_33 (by decide) ?_
  refine r_ictor (ws := [(h0, .inr (1, [.ref q, .int 0, .int 0])), (q, .inl (cA, 6, .inr (.inr (.inr (.inr (fun _ => none))))))]) (q := q0) (e0 := .inr (3, [.null])) hP hD hS hA (r_runI (As := [.int 169]) (rest := [.ref q0, .int 0, .ref q]) S hK hP (iX3 l D cI cA q0 169 (by decide) rfl) icX3 iiX3 iniX3 kX1_17 (by decide +kernel) rfl ⟨rfl, rfl⟩ ⟨Nat.le_of_ble_eq_true rfl, Nat.le_of_ble_eq_true rfl⟩ (fun _ _ _ _ _ => trivial) (fun _ _ _ => trivial) hl.1 rfl (Nat.le_of_ble_eq_true rfl) ⟨Nat.le_of_ble_eq_true rfl, Nat.le_of_ble_eq_true rfl⟩ dX1_init_36) (fun u0 H locs hP hD hS => ?_)
  have hP : va_P D vwCl [(h0, .inr (1, [.ref q, .int 0, .int 0])), (q, .inl (cA, 6, .inr (.inr (.inr (.inr (fun _ => none)))))), (q0, .inr (3, [.ref (u0 1)])), (u0 1, .inl (cI, 169, .inl (fun _ => 0)))] H := hP
  have hD : va_D A [(h0, .inr (1, [.ref q, .int 0, .int 0])), (q, .inl (cA, 6, .inr (.inr (.inr (.inr (fun _ => none)))))), (q0, .inr (3, [.ref (u0 1)])), (u0 1, .inl (cI, 169, .inl (fun _ => 0)))] := hD
  refine va_astq (r := (RX3, TX3, 1)) (v := q0) (i := 0) hx hb hK hP hD hS 1 1 2 3 rfl rfl rfl rfl (inb_in (by decide)) dX1_init_39 (fun H locs hP hD hS => ?_)
  have hP : va_P D vwCl [(h0, .inr (1, [.ref q, .int 0, .int 0])), (q, .inl (cA, 6, .inr (.inr (.inr (.inr (va_up (fun _ => none) 0 (some q0))))))), (q0, .inr (3, [.ref (u0 1)])), (u0 1, .inl (cI, 169, .inl (fun _ => 0)))] H := hP
  have hD : va_D A [(h0, .inr (1, [.ref q, .int 0, .int 0])), (q, .inl (cA, 6, .inr (.inr (.inr (.inr (va_up (fun _ => none) 0 (some q0))))))), (q0, .inr (3, [.ref (u0 1)])), (u0 1, .inl (cI, 169, .inl (fun _ => 0)))] := hD
  refine lv_iinc (v := 1) (lv' := [(1, .int 1), (0, .ref h0)]) hx hb dX1_init_40 hl (k := 0) rfl (by decide) (by decide) rfl (fun ls hl => ?_)
  refine lv_goto (tgt := 15) hx hb dX1_init_43 (by decide) ?_
  refine lv_iload_n hx hb dX1_init_15 rfl (lv_at hl 0 rfl) ?_
  refine lv_aload_n hx hb dX1_init_16 rfl (lv_at hl 1 rfl) ?_
  refine va_get (D := D) (ci := 1) (v := .ref q) (C := RX1) (T := TX1) (N := 3) hx hb S.2.2.2.2 iwX1 S.2.2.2.1 hK hP 0 rfl rfl 0 (by decide) (S.2.2.2.2 _ kX1_11) (fun _ h9 => h9) rfl dX1_init_17 ?_
  refine va_alen (v := 6) hx hb hK hP 1 1 rfl rfl rfl dX1_init_20 ?_
  refine lv_icmp_ge (tgt := 46) hx hb dX1_init_21 (by decide) (fun h => absurd h (by decide)) (fun _ => ?_)
  refine lv_aload_n hx hb dX1_init_24 rfl (lv_at hl 1 rfl) ?_
  refine va_get (D := D) (ci := 1) (v := .ref q) (C := RX1) (T := TX1) (N := 3) hx hb S.2.2.2.2 iwX1 S.2.2.2.1 hK hP 0 rfl rfl 0 (by decide) (S.2.2.2.2 _ kX1_11) (fun _ h9 => h9) rfl dX1_init_25 ?_
  refine lv_iload_n hx hb dX1_init_28 rfl (lv_at hl 0 rfl) ?_
  refine va_new (ci := 3) (fs := [.null]) (C := RX3) (T := TX3) (N := 1) hx hb S.2.2.2.2 iwX3 tyX3 tyX3_ok S.2.2.2.1 (S.2.2.2.2 _ kX1_9c) (S.2.2.2.2 _ inX3) (S.2.2.2.2 _ iniX3) hK hP hD hS hA rfl (fun j hj => by rcases (show j = 0 by omega) with rfl <;> rfl) (Nat.le_of_ble_eq_true rfl) (Nat.le_of_ble_eq_true rfl) dX1_init_29 (fun q1 H hP hD hS => ?_)
  refine lv_dup hx hb dX1_init_32 rfl ?_
  refine lv_sipush (v := 169) hx hb dX1_init_33 (by decide) ?_
  refine r_ictor (ws := [(h0, .inr (1, [.ref q, .int 0, .int 0])), (q, .inl (cA, 6, .inr (.inr (.inr (.inr (va_up (fun _ => none) 0 (some q0))))))), (q0, .inr (3, [.ref (u0 1)])), (u0 1, .inl (cI, 169, .inl (fun _ => 0)))]) (q := q1) (e0 := .inr (3, [.null])) hP hD hS hA (r_runI (As := [.int 169]) (rest := [.ref q1, .int 1, .ref q]) S hK hP (iX3 l D cI cA q1 169 (by decide) rfl) icX3 iiX3 iniX3 kX1_17 (by decide +kernel) rfl ⟨rfl, rfl⟩ ⟨Nat.le_of_ble_eq_true rfl, Nat.le_of_ble_eq_true rfl⟩ (fun _ _ _ _ _ => trivial) (fun _ _ _ => trivial) hl.1 rfl (Nat.le_of_ble_eq_true rfl) ⟨Nat.le_of_ble_eq_true rfl, Nat.le_of_ble_eq_true rfl⟩ dX1_init_36) (fun u1 H locs hP hD hS => ?_)
  have hP : va_P D vwCl [(h0, .inr (1, [.ref q, .int 0, .int 0])), (q, .inl (cA, 6, .inr (.inr (.inr (.inr (va_up (fun _ => none) 0 (some q0))))))), (q0, .inr (3, [.ref (u0 1)])), (u0 1, .inl (cI, 169, .inl (fun _ => 0))), (q1, .inr (3, [.ref (u1 1)])), (u1 1, .inl (cI, 169, .inl (fun _ => 0)))] H := hP
  have hD : va_D A [(h0, .inr (1, [.ref q, .int 0, .int 0])), (q, .inl (cA, 6, .inr (.inr (.inr (.inr (va_up (fun _ => none) 0 (some q0))))))), (q0, .inr (3, [.ref (u0 1)])), (u0 1, .inl (cI, 169, .inl (fun _ => 0))), (q1, .inr (3, [.ref (u1 1)])), (u1 1, .inl (cI, 169, .inl (fun _ => 0)))] := hD
  refine va_astq (r := (RX3, TX3, 1)) (v := q1) (i := 1) hx hb hK hP hD hS 1 1 4 3 rfl rfl rfl rfl (inb_in (by decide)) dX1_init_39 (fun H locs hP hD hS => ?_)
  have hP : va_P D vwCl [(h0, .inr (1, [.ref q, .int 0, .int 0])), (q, .inl (cA, 6, .inr (.inr (.inr (.inr (va_up (va_up (fun _ => none) 0 (some q0)) 1 (some q1))))))), (q0, .inr (3, [.ref (u0 1)])), (u0 1, .inl (cI, 169, .inl (fun _ => 0))), (q1, .inr (3, [.ref (u1 1)])), (u1 1, .inl (cI, 169, .inl (fun _ => 0)))] H := hP
  have hD : va_D A [(h0, .inr (1, [.ref q, .int 0, .int 0])), (q, .inl (cA, 6, .inr (.inr (.inr (.inr (va_up (va_up (fun _ => none) 0 (some q0)) 1 (some q1))))))), (q0, .inr (3, [.ref (u0 1)])), (u0 1, .inl (cI, 169, .inl (fun _ => 0))), (q1, .inr (3, [.ref (u1 1)])), (u1 1, .inl (cI, 169, .inl (fun _ => 0)))] := hD
  refine lv_iinc (v := 2) (lv' := [(1, .int 2), (0, .ref h0)]) hx hb dX1_init_40 hl (k := 0) rfl (by decide) (by decide) rfl (fun ls hl => ?_)
  refine lv_goto (tgt := 15) hx hb dX1_init_43 (by decide) ?_
  refine lv_iload_n hx hb dX1_init_15 rfl (lv_at hl 0 rfl) ?_
  refine lv_aload_n hx hb dX1_init_16 rfl (lv_at hl 1 rfl) ?_
  refine va_get (D := D) (ci := 1) (v := .ref q) (C := RX1) (T := TX1) (N := 3) hx hb S.2.2.2.2 iwX1 S.2.2.2.1 hK hP 0 rfl rfl 0 (by decide) (S.2.2.2.2 _ kX1_11) (fun _ h9 => h9) rfl dX1_init_17 ?_
  refine va_alen (v := 6) hx hb hK hP 1 1 rfl rfl rfl dX1_init_20 ?_
  refine lv_icmp_ge (tgt := 46) hx hb dX1_init_21 (by decide) (fun h => absurd h (by decide)) (fun _ => ?_)
  refine lv_aload_n hx hb dX1_init_24 rfl (lv_at hl 1 rfl) ?_
  refine va_get (D := D) (ci := 1) (v := .ref q) (C := RX1) (T := TX1) (N := 3) hx hb S.2.2.2.2 iwX1 S.2.2.2.1 hK hP 0 rfl rfl 0 (by decide) (S.2.2.2.2 _ kX1_11) (fun _ h9 => h9) rfl dX1_init_25 ?_
  refine lv_iload_n hx hb dX1_init_28 rfl (lv_at hl 0 rfl) ?_
  refine va_new (ci := 3) (fs := [.null]) (C := RX3) (T := TX3) (N := 1) hx hb S.2.2.2.2 iwX3 tyX3 tyX3_ok S.2.2.2.1 (S.2.2.2.2 _ kX1_9c) (S.2.2.2.2 _ inX3) (S.2.2.2.2 _ iniX3) hK hP hD hS hA rfl (fun j hj => by rcases (show j = 0 by omega) with rfl <;> rfl) (Nat.le_of_ble_eq_true rfl) (Nat.le_of_ble_eq_true rfl) dX1_init_29 (fun q2 H hP hD hS => ?_)
  refine lv_dup hx hb dX1_init_32 rfl ?_
  refine lv_sipush (v := 169) hx hb dX1_init_33 (by decide) ?_
  refine r_ictor (ws := [(h0, .inr (1, [.ref q, .int 0, .int 0])), (q, .inl (cA, 6, .inr (.inr (.inr (.inr (va_up (va_up (fun _ => none) 0 (some q0)) 1 (some q1))))))), (q0, .inr (3, [.ref (u0 1)])), (u0 1, .inl (cI, 169, .inl (fun _ => 0))), (q1, .inr (3, [.ref (u1 1)])), (u1 1, .inl (cI, 169, .inl (fun _ => 0)))]) (q := q2) (e0 := .inr (3, [.null])) hP hD hS hA (r_runI (As := [.int 169]) (rest := [.ref q2, .int 2, .ref q]) S hK hP (iX3 l D cI cA q2 169 (by decide) rfl) icX3 iiX3 iniX3 kX1_17 (by decide +kernel) rfl ⟨rfl, rfl⟩ ⟨Nat.le_of_ble_eq_true rfl, Nat.le_of_ble_eq_true rfl⟩ (fun _ _ _ _ _ => trivial) (fun _ _ _ => trivial) hl.1 rfl (Nat.le_of_ble_eq_true rfl) ⟨Nat.le_of_ble_eq_true rfl, Nat.le_of_ble_eq_true rfl⟩ dX1_init_36) (fun u2 H locs hP hD hS => ?_)
  have hP : va_P D vwCl [(h0, .inr (1, [.ref q, .int 0, .int 0])), (q, .inl (cA, 6, .inr (.inr (.inr (.inr (va_up (va_up (fun _ => none) 0 (some q0)) 1 (some q1))))))), (q0, .inr (3, [.ref (u0 1)])), (u0 1, .inl (cI, 169, .inl (fun _ => 0))), (q1, .inr (3, [.ref (u1 1)])), (u1 1, .inl (cI, 169, .inl (fun _ => 0))), (q2, .inr (3, [.ref (u2 1)])), (u2 1, .inl (cI, 169, .inl (fun _ => 0)))] H := hP
  have hD : va_D A [(h0, .inr (1, [.ref q, .int 0, .int 0])), (q, .inl (cA, 6, .inr (.inr (.inr (.inr (va_up (va_up (fun _ => none) 0 (some q0)) 1 (some q1))))))), (q0, .inr (3, [.ref (u0 1)])), (u0 1, .inl (cI, 169, .inl (fun _ => 0))), (q1, .inr (3, [.ref (u1 1)])), (u1 1, .inl (cI, 169, .inl (fun _ => 0))), (q2, .inr (3, [.ref (u2 1)])), (u2 1, .inl (cI, 169, .inl (fun _ => 0)))] := hD
  refine va_astq (r := (RX3, TX3, 1)) (v := q2) (i := 2) hx hb hK hP hD hS 1 1 6 3 rfl rfl rfl rfl (inb_in (by decide)) dX1_init_39 (fun H locs hP hD hS => ?_)
  have hP : va_P D vwCl [(h0, .inr (1, [.ref q, .int 0, .int 0])), (q, .inl (cA, 6, .inr (.inr (.inr (.inr (va_up (va_up (va_up (fun _ => none) 0 (some q0)) 1 (some q1)) 2 (some q2))))))), (q0, .inr (3, [.ref (u0 1)])), (u0 1, .inl (cI, 169, .inl (fun _ => 0))), (q1, .inr (3, [.ref (u1 1)])), (u1 1, .inl (cI, 169, .inl (fun _ => 0))), (q2, .inr (3, [.ref (u2 1)])), (u2 1, .inl (cI, 169, .inl (fun _ => 0)))] H := hP
  have hD : va_D A [(h0, .inr (1, [.ref q, .int 0, .int 0])), (q, .inl (cA, 6, .inr (.inr (.inr (.inr (va_up (va_up (va_up (fun _ => none) 0 (some q0)) 1 (some q1)) 2 (some q2))))))), (q0, .inr (3, [.ref (u0 1)])), (u0 1, .inl (cI, 169, .inl (fun _ => 0))), (q1, .inr (3, [.ref (u1 1)])), (u1 1, .inl (cI, 169, .inl (fun _ => 0))), (q2, .inr (3, [.ref (u2 1)])), (u2 1, .inl (cI, 169, .inl (fun _ => 0)))] := hD
  refine lv_iinc (v := 3) (lv' := [(1, .int 3), (0, .ref h0)]) hx hb dX1_init_40 hl (k := 0) rfl (by decide) (by decide) rfl (fun ls hl => ?_)
  refine lv_goto (tgt := 15) hx hb dX1_init_43 (by decide) ?_
  refine lv_iload_n hx hb dX1_init_15 rfl (lv_at hl 0 rfl) ?_
  refine lv_aload_n hx hb dX1_init_16 rfl (lv_at hl 1 rfl) ?_
  refine va_get (D := D) (ci := 1) (v := .ref q) (C := RX1) (T := TX1) (N := 3) hx hb S.2.2.2.2 iwX1 S.2.2.2.1 hK hP 0 rfl rfl 0 (by decide) (S.2.2.2.2 _ kX1_11) (fun _ h9 => h9) rfl dX1_init_17 ?_
  refine va_alen (v := 6) hx hb hK hP 1 1 rfl rfl rfl dX1_init_20 ?_
  refine lv_icmp_ge (tgt := 46) hx hb dX1_init_21 (by decide) (fun h => absurd h (by decide)) (fun _ => ?_)
  refine lv_aload_n hx hb dX1_init_24 rfl (lv_at hl 1 rfl) ?_
  refine va_get (D := D) (ci := 1) (v := .ref q) (C := RX1) (T := TX1) (N := 3) hx hb S.2.2.2.2 iwX1 S.2.2.2.1 hK hP 0 rfl rfl 0 (by decide) (S.2.2.2.2 _ kX1_11) (fun _ h9 => h9) rfl dX1_init_25 ?_
  refine lv_iload_n hx hb dX1_init_28 rfl (lv_at hl 0 rfl) ?_
  refine va_new (ci := 3) (fs := [.null]) (C := RX3) (T := TX3) (N := 1) hx hb S.2.2.2.2 iwX3 tyX3 tyX3_ok S.2.2.2.1 (S.2.2.2.2 _ kX1_9c) (S.2.2.2.2 _ inX3) (S.2.2.2.2 _ iniX3) hK hP hD hS hA rfl (fun j hj => by rcases (show j = 0 by omega) with rfl <;> rfl) (Nat.le_of_ble_eq_true rfl) (Nat.le_of_ble_eq_true rfl) dX1_init_29 (fun q3 H hP hD hS => ?_)
  refine lv_dup hx hb dX1_init_32 rfl ?_
  refine lv_sipush (v := 169) hx hb dX1_init_33 (by decide) ?_
  refine r_ictor (ws := [(h0, .inr (1, [.ref q, .int 0, .int 0])), (q, .inl (cA, 6, .inr (.inr (.inr (.inr (va_up (va_up (va_up (fun _ => none) 0 (some q0)) 1 (some q1)) 2 (some q2))))))), (q0, .inr (3, [.ref (u0 1)])), (u0 1, .inl (cI, 169, .inl (fun _ => 0))), (q1, .inr (3, [.ref (u1 1)])), (u1 1, .inl (cI, 169, .inl (fun _ => 0))), (q2, .inr (3, [.ref (u2 1)])), (u2 1, .inl (cI, 169, .inl (fun _ => 0)))]) (q := q3) (e0 := .inr (3, [.null])) hP hD hS hA (r_runI (As := [.int 169]) (rest := [.ref q3, .int 3, .ref q]) S hK hP (iX3 l D cI cA q3 169 (by decide) rfl) icX3 iiX3 iniX3 kX1_17 (by decide +kernel) rfl ⟨rfl, rfl⟩ ⟨Nat.le_of_ble_eq_true rfl, Nat.le_of_ble_eq_true rfl⟩ (fun _ _ _ _ _ => trivial) (fun _ _ _ => trivial) hl.1 rfl (Nat.le_of_ble_eq_true rfl) ⟨Nat.le_of_ble_eq_true rfl, Nat.le_of_ble_eq_true rfl⟩ dX1_init_36) (fun u3 H locs hP hD hS => ?_)
  have hP : va_P D vwCl [(h0, .inr (1, [.ref q, .int 0, .int 0])), (q, .inl (cA, 6, .inr (.inr (.inr (.inr (va_up (va_up (va_up (fun _ => none) 0 (some q0)) 1 (some q1)) 2 (some q2))))))), (q0, .inr (3, [.ref (u0 1)])), (u0 1, .inl (cI, 169, .inl (fun _ => 0))), (q1, .inr (3, [.ref (u1 1)])), (u1 1, .inl (cI, 169, .inl (fun _ => 0))), (q2, .inr (3, [.ref (u2 1)])), (u2 1, .inl (cI, 169, .inl (fun _ => 0))), (q3, .inr (3, [.ref (u3 1)])), (u3 1, .inl (cI, 169, .inl (fun _ => 0)))] H := hP
  have hD : va_D A [(h0, .inr (1, [.ref q, .int 0, .int 0])), (q, .inl (cA, 6, .inr (.inr (.inr (.inr (va_up (va_up (va_up (fun _ => none) 0 (some q0)) 1 (some q1)) 2 (some q2))))))), (q0, .inr (3, [.ref (u0 1)])), (u0 1, .inl (cI, 169, .inl (fun _ => 0))), (q1, .inr (3, [.ref (u1 1)])), (u1 1, .inl (cI, 169, .inl (fun _ => 0))), (q2, .inr (3, [.ref (u2 1)])), (u2 1, .inl (cI, 169, .inl (fun _ => 0))), (q3, .inr (3, [.ref (u3 1)])), (u3 1, .inl (cI, 169, .inl (fun _ => 0)))] := hD
  refine va_astq (r := (RX3, TX3, 1)) (v := q3) (i := 3) hx hb hK hP hD hS 1 1 8 3 rfl rfl rfl rfl (inb_in (by decide)) dX1_init_39 (fun H locs hP hD hS => ?_)
  have hP : va_P D vwCl [(h0, .inr (1, [.ref q, .int 0, .int 0])), (q, .inl (cA, 6, .inr (.inr (.inr (.inr (va_up (va_up (va_up (va_up (fun _ => none) 0 (some q0)) 1 (some q1)) 2 (some q2)) 3 (some q3))))))), (q0, .inr (3, [.ref (u0 1)])), (u0 1, .inl (cI, 169, .inl (fun _ => 0))), (q1, .inr (3, [.ref (u1 1)])), (u1 1, .inl (cI, 169, .inl (fun _ => 0))), (q2, .inr (3, [.ref (u2 1)])), (u2 1, .inl (cI, 169, .inl (fun _ => 0))), (q3, .inr (3, [.ref (u3 1)])), (u3 1, .inl (cI, 169, .inl (fun _ => 0)))] H := hP
  have hD : va_D A [(h0, .inr (1, [.ref q, .int 0, .int 0])), (q, .inl (cA, 6, .inr (.inr (.inr (.inr (va_up (va_up (va_up (va_up (fun _ => none) 0 (some q0)) 1 (some q1)) 2 (some q2)) 3 (some q3))))))), (q0, .inr (3, [.ref (u0 1)])), (u0 1, .inl (cI, 169, .inl (fun _ => 0))), (q1, .inr (3, [.ref (u1 1)])), (u1 1, .inl (cI, 169, .inl (fun _ => 0))), (q2, .inr (3, [.ref (u2 1)])), (u2 1, .inl (cI, 169, .inl (fun _ => 0))), (q3, .inr (3, [.ref (u3 1)])), (u3 1, .inl (cI, 169, .inl (fun _ => 0)))] := hD
  refine lv_iinc (v := 4) (lv' := [(1, .int 4), (0, .ref h0)]) hx hb dX1_init_40 hl (k := 0) rfl (by decide) (by decide) rfl (fun ls hl => ?_)
  refine lv_goto (tgt := 15) hx hb dX1_init_43 (by decide) ?_
  refine lv_iload_n hx hb dX1_init_15 rfl (lv_at hl 0 rfl) ?_
  refine lv_aload_n hx hb dX1_init_16 rfl (lv_at hl 1 rfl) ?_
  refine va_get (D := D) (ci := 1) (v := .ref q) (C := RX1) (T := TX1) (N := 3) hx hb S.2.2.2.2 iwX1 S.2.2.2.1 hK hP 0 rfl rfl 0 (by decide) (S.2.2.2.2 _ kX1_11) (fun _ h9 => h9) rfl dX1_init_17 ?_
  refine va_alen (v := 6) hx hb hK hP 1 1 rfl rfl rfl dX1_init_20 ?_
  refine lv_icmp_ge (tgt := 46) hx hb dX1_init_21 (by decide) (fun h => absurd h (by decide)) (fun _ => ?_)
  refine lv_aload_n hx hb dX1_init_24 rfl (lv_at hl 1 rfl) ?_
  refine va_get (D := D) (ci := 1) (v := .ref q) (C := RX1) (T := TX1) (N := 3) hx hb S.2.2.2.2 iwX1 S.2.2.2.1 hK hP 0 rfl rfl 0 (by decide) (S.2.2.2.2 _ kX1_11) (fun _ h9 => h9) rfl dX1_init_25 ?_
  refine lv_iload_n hx hb dX1_init_28 rfl (lv_at hl 0 rfl) ?_
  refine va_new (ci := 3) (fs := [.null]) (C := RX3) (T := TX3) (N := 1) hx hb S.2.2.2.2 iwX3 tyX3 tyX3_ok S.2.2.2.1 (S.2.2.2.2 _ kX1_9c) (S.2.2.2.2 _ inX3) (S.2.2.2.2 _ iniX3) hK hP hD hS hA rfl (fun j hj => by rcases (show j = 0 by omega) with rfl <;> rfl) (Nat.le_of_ble_eq_true rfl) (Nat.le_of_ble_eq_true rfl) dX1_init_29 (fun q4 H hP hD hS => ?_)
  refine lv_dup hx hb dX1_init_32 rfl ?_
  refine lv_sipush (v := 169) hx hb dX1_init_33 (by decide) ?_
  refine r_ictor (ws := [(h0, .inr (1, [.ref q, .int 0, .int 0])), (q, .inl (cA, 6, .inr (.inr (.inr (.inr (va_up (va_up (va_up (va_up (fun _ => none) 0 (some q0)) 1 (some q1)) 2 (some q2)) 3 (some q3))))))), (q0, .inr (3, [.ref (u0 1)])), (u0 1, .inl (cI, 169, .inl (fun _ => 0))), (q1, .inr (3, [.ref (u1 1)])), (u1 1, .inl (cI, 169, .inl (fun _ => 0))), (q2, .inr (3, [.ref (u2 1)])), (u2 1, .inl (cI, 169, .inl (fun _ => 0))), (q3, .inr (3, [.ref (u3 1)])), (u3 1, .inl (cI, 169, .inl (fun _ => 0)))]) (q := q4) (e0 := .inr (3, [.null])) hP hD hS hA (r_runI (As := [.int 169]) (rest := [.ref q4, .int 4, .ref q]) S hK hP (iX3 l D cI cA q4 169 (by decide) rfl) icX3 iiX3 iniX3 kX1_17 (by decide +kernel) rfl ⟨rfl, rfl⟩ ⟨Nat.le_of_ble_eq_true rfl, Nat.le_of_ble_eq_true rfl⟩ (fun _ _ _ _ _ => trivial) (fun _ _ _ => trivial) hl.1 rfl (Nat.le_of_ble_eq_true rfl) ⟨Nat.le_of_ble_eq_true rfl, Nat.le_of_ble_eq_true rfl⟩ dX1_init_36) (fun u4 H locs hP hD hS => ?_)
  have hP : va_P D vwCl [(h0, .inr (1, [.ref q, .int 0, .int 0])), (q, .inl (cA, 6, .inr (.inr (.inr (.inr (va_up (va_up (va_up (va_up (fun _ => none) 0 (some q0)) 1 (some q1)) 2 (some q2)) 3 (some q3))))))), (q0, .inr (3, [.ref (u0 1)])), (u0 1, .inl (cI, 169, .inl (fun _ => 0))), (q1, .inr (3, [.ref (u1 1)])), (u1 1, .inl (cI, 169, .inl (fun _ => 0))), (q2, .inr (3, [.ref (u2 1)])), (u2 1, .inl (cI, 169, .inl (fun _ => 0))), (q3, .inr (3, [.ref (u3 1)])), (u3 1, .inl (cI, 169, .inl (fun _ => 0))), (q4, .inr (3, [.ref (u4 1)])), (u4 1, .inl (cI, 169, .inl (fun _ => 0)))] H := hP
  have hD : va_D A [(h0, .inr (1, [.ref q, .int 0, .int 0])), (q, .inl (cA, 6, .inr (.inr (.inr (.inr (va_up (va_up (va_up (va_up (fun _ => none) 0 (some q0)) 1 (some q1)) 2 (some q2)) 3 (some q3))))))), (q0, .inr (3, [.ref (u0 1)])), (u0 1, .inl (cI, 169, .inl (fun _ => 0))), (q1, .inr (3, [.ref (u1 1)])), (u1 1, .inl (cI, 169, .inl (fun _ => 0))), (q2, .inr (3, [.ref (u2 1)])), (u2 1, .inl (cI, 169, .inl (fun _ => 0))), (q3, .inr (3, [.ref (u3 1)])), (u3 1, .inl (cI, 169, .inl (fun _ => 0))), (q4, .inr (3, [.ref (u4 1)])), (u4 1, .inl (cI, 169, .inl (fun _ => 0)))] := hD
  refine va_astq (r := (RX3, TX3, 1)) (v := q4) (i := 4) hx hb hK hP hD hS 1 1 10 3 rfl rfl rfl rfl (inb_in (by decide)) dX1_init_39 (fun H locs hP hD hS => ?_)
  have hP : va_P D vwCl [(h0, .inr (1, [.ref q, .int 0, .int 0])), (q, .inl (cA, 6, .inr (.inr (.inr (.inr (va_up (va_up (va_up (va_up (va_up (fun _ => none) 0 (some q0)) 1 (some q1)) 2 (some q2)) 3 (some q3)) 4 (some q4))))))), (q0, .inr (3, [.ref (u0 1)])), (u0 1, .inl (cI, 169, .inl (fun _ => 0))), (q1, .inr (3, [.ref (u1 1)])), (u1 1, .inl (cI, 169, .inl (fun _ => 0))), (q2, .inr (3, [.ref (u2 1)])), (u2 1, .inl (cI, 169, .inl (fun _ => 0))), (q3, .inr (3, [.ref (u3 1)])), (u3 1, .inl (cI, 169, .inl (fun _ => 0))), (q4, .inr (3, [.ref (u4 1)])), (u4 1, .inl (cI, 169, .inl (fun _ => 0)))] H := hP
  have hD : va_D A [(h0, .inr (1, [.ref q, .int 0, .int 0])), (q, .inl (cA, 6, .inr (.inr (.inr (.inr (va_up (va_up (va_up (va_up (va_up (fun _ => none) 0 (some q0)) 1 (some q1)) 2 (some q2)) 3 (some q3)) 4 (some q4))))))), (q0, .inr (3, [.ref (u0 1)])), (u0 1, .inl (cI, 169, .inl (fun _ => 0))), (q1, .inr (3, [.ref (u1 1)])), (u1 1, .inl (cI, 169, .inl (fun _ => 0))), (q2, .inr (3, [.ref (u2 1)])), (u2 1, .inl (cI, 169, .inl (fun _ => 0))), (q3, .inr (3, [.ref (u3 1)])), (u3 1, .inl (cI, 169, .inl (fun _ => 0))), (q4, .inr (3, [.ref (u4 1)])), (u4 1, .inl (cI, 169, .inl (fun _ => 0)))] := hD
  refine lv_iinc (v := 5) (lv' := [(1, .int 5), (0, .ref h0)]) hx hb dX1_init_40 hl (k := 0) rfl (by decide) (by decide) rfl (fun ls hl => ?_)
  refine lv_goto (tgt := 15) hx hb dX1_init_43 (by decide) ?_
  refine lv_iload_n hx hb dX1_init_15 rfl (lv_at hl 0 rfl) ?_
  refine lv_aload_n hx hb dX1_init_16 rfl (lv_at hl 1 rfl) ?_
  refine va_get (D := D) (ci := 1) (v := .ref q) (C := RX1) (T := TX1) (N := 3) hx hb S.2.2.2.2 iwX1 S.2.2.2.1 hK hP 0 rfl rfl 0 (by decide) (S.2.2.2.2 _ kX1_11) (fun _ h9 => h9) rfl dX1_init_17 ?_
  refine va_alen (v := 6) hx hb hK hP 1 1 rfl rfl rfl dX1_init_20 ?_
  refine lv_icmp_ge (tgt := 46) hx hb dX1_init_21 (by decide) (fun h => absurd h (by decide)) (fun _ => ?_)
  refine lv_aload_n hx hb dX1_init_24 rfl (lv_at hl 1 rfl) ?_
  refine va_get (D := D) (ci := 1) (v := .ref q) (C := RX1) (T := TX1) (N := 3) hx hb S.2.2.2.2 iwX1 S.2.2.2.1 hK hP 0 rfl rfl 0 (by decide) (S.2.2.2.2 _ kX1_11) (fun _ h9 => h9) rfl dX1_init_25 ?_
  refine lv_iload_n hx hb dX1_init_28 rfl (lv_at hl 0 rfl) ?_
  refine va_new (ci := 3) (fs := [.null]) (C := RX3) (T := TX3) (N := 1) hx hb S.2.2.2.2 iwX3 tyX3 tyX3_ok S.2.2.2.1 (S.2.2.2.2 _ kX1_9c) (S.2.2.2.2 _ inX3) (S.2.2.2.2 _ iniX3) hK hP hD hS hA rfl (fun j hj => by rcases (show j = 0 by omega) with rfl <;> rfl) (Nat.le_of_ble_eq_true rfl) (Nat.le_of_ble_eq_true rfl) dX1_init_29 (fun q5 H hP hD hS => ?_)
  refine lv_dup hx hb dX1_init_32 rfl ?_
  refine lv_sipush (v := 169) hx hb dX1_init_33 (by decide) ?_
  refine r_ictor (ws := [(h0, .inr (1, [.ref q, .int 0, .int 0])), (q, .inl (cA, 6, .inr (.inr (.inr (.inr (va_up (va_up (va_up (va_up (va_up (fun _ => none) 0 (some q0)) 1 (some q1)) 2 (some q2)) 3 (some q3)) 4 (some q4))))))), (q0, .inr (3, [.ref (u0 1)])), (u0 1, .inl (cI, 169, .inl (fun _ => 0))), (q1, .inr (3, [.ref (u1 1)])), (u1 1, .inl (cI, 169, .inl (fun _ => 0))), (q2, .inr (3, [.ref (u2 1)])), (u2 1, .inl (cI, 169, .inl (fun _ => 0))), (q3, .inr (3, [.ref (u3 1)])), (u3 1, .inl (cI, 169, .inl (fun _ => 0))), (q4, .inr (3, [.ref (u4 1)])), (u4 1, .inl (cI, 169, .inl (fun _ => 0)))]) (q := q5) (e0 := .inr (3, [.null])) hP hD hS hA (r_runI (As := [.int 169]) (rest := [.ref q5, .int 5, .ref q]) S hK hP (iX3 l D cI cA q5 169 (by decide) rfl) icX3 iiX3 iniX3 kX1_17 (by decide +kernel) rfl ⟨rfl, rfl⟩ ⟨Nat.le_of_ble_eq_true rfl, Nat.le_of_ble_eq_true rfl⟩ (fun _ _ _ _ _ => trivial) (fun _ _ _ => trivial) hl.1 rfl (Nat.le_of_ble_eq_true rfl) ⟨Nat.le_of_ble_eq_true rfl, Nat.le_of_ble_eq_true rfl⟩ dX1_init_36) (fun u5 H locs hP hD hS => ?_)
  have hP : va_P D vwCl [(h0, .inr (1, [.ref q, .int 0, .int 0])), (q, .inl (cA, 6, .inr (.inr (.inr (.inr (va_up (va_up (va_up (va_up (va_up (fun _ => none) 0 (some q0)) 1 (some q1)) 2 (some q2)) 3 (some q3)) 4 (some q4))))))), (q0, .inr (3, [.ref (u0 1)])), (u0 1, .inl (cI, 169, .inl (fun _ => 0))), (q1, .inr (3, [.ref (u1 1)])), (u1 1, .inl (cI, 169, .inl (fun _ => 0))), (q2, .inr (3, [.ref (u2 1)])), (u2 1, .inl (cI, 169, .inl (fun _ => 0))), (q3, .inr (3, [.ref (u3 1)])), (u3 1, .inl (cI, 169, .inl (fun _ => 0))), (q4, .inr (3, [.ref (u4 1)])), (u4 1, .inl (cI, 169, .inl (fun _ => 0))), (q5, .inr (3, [.ref (u5 1)])), (u5 1, .inl (cI, 169, .inl (fun _ => 0)))] H := hP
  have hD : va_D A [(h0, .inr (1, [.ref q, .int 0, .int 0])), (q, .inl (cA, 6, .inr (.inr (.inr (.inr (va_up (va_up (va_up (va_up (va_up (fun _ => none) 0 (some q0)) 1 (some q1)) 2 (some q2)) 3 (some q3)) 4 (some q4))))))), (q0, .inr (3, [.ref (u0 1)])), (u0 1, .inl (cI, 169, .inl (fun _ => 0))), (q1, .inr (3, [.ref (u1 1)])), (u1 1, .inl (cI, 169, .inl (fun _ => 0))), (q2, .inr (3, [.ref (u2 1)])), (u2 1, .inl (cI, 169, .inl (fun _ => 0))), (q3, .inr (3, [.ref (u3 1)])), (u3 1, .inl (cI, 169, .inl (fun _ => 0))), (q4, .inr (3, [.ref (u4 1)])), (u4 1, .inl (cI, 169, .inl (fun _ => 0))), (q5, .inr (3, [.ref (u5 1)])), (u5 1, .inl (cI, 169, .inl (fun _ => 0)))] := hD
  refine va_astq (r := (RX3, TX3, 1)) (v := q5) (i := 5) hx hb hK hP hD hS 1 1 12 3 rfl rfl rfl rfl (inb_in (by decide)) dX1_init_39 (fun H locs hP hD hS => ?_)
  have hP : va_P D vwCl [(h0, .inr (1, [.ref q, .int 0, .int 0])), (q, .inl (cA, 6, .inr (.inr (.inr (.inr (va_up (va_up (va_up (va_up (va_up (va_up (fun _ => none) 0 (some q0)) 1 (some q1)) 2 (some q2)) 3 (some q3)) 4 (some q4)) 5 (some q5))))))), (q0, .inr (3, [.ref (u0 1)])), (u0 1, .inl (cI, 169, .inl (fun _ => 0))), (q1, .inr (3, [.ref (u1 1)])), (u1 1, .inl (cI, 169, .inl (fun _ => 0))), (q2, .inr (3, [.ref (u2 1)])), (u2 1, .inl (cI, 169, .inl (fun _ => 0))), (q3, .inr (3, [.ref (u3 1)])), (u3 1, .inl (cI, 169, .inl (fun _ => 0))), (q4, .inr (3, [.ref (u4 1)])), (u4 1, .inl (cI, 169, .inl (fun _ => 0))), (q5, .inr (3, [.ref (u5 1)])), (u5 1, .inl (cI, 169, .inl (fun _ => 0)))] H := hP
  have hD : va_D A [(h0, .inr (1, [.ref q, .int 0, .int 0])), (q, .inl (cA, 6, .inr (.inr (.inr (.inr (va_up (va_up (va_up (va_up (va_up (va_up (fun _ => none) 0 (some q0)) 1 (some q1)) 2 (some q2)) 3 (some q3)) 4 (some q4)) 5 (some q5))))))), (q0, .inr (3, [.ref (u0 1)])), (u0 1, .inl (cI, 169, .inl (fun _ => 0))), (q1, .inr (3, [.ref (u1 1)])), (u1 1, .inl (cI, 169, .inl (fun _ => 0))), (q2, .inr (3, [.ref (u2 1)])), (u2 1, .inl (cI, 169, .inl (fun _ => 0))), (q3, .inr (3, [.ref (u3 1)])), (u3 1, .inl (cI, 169, .inl (fun _ => 0))), (q4, .inr (3, [.ref (u4 1)])), (u4 1, .inl (cI, 169, .inl (fun _ => 0))), (q5, .inr (3, [.ref (u5 1)])), (u5 1, .inl (cI, 169, .inl (fun _ => 0)))] := hD
  refine lv_iinc (v := 6) (lv' := [(1, .int 6), (0, .ref h0)]) hx hb dX1_init_40 hl (k := 0) rfl (by decide) (by decide) rfl (fun ls hl => ?_)
  refine lv_goto (tgt := 15) hx hb dX1_init_43 (by decide) ?_
  refine lv_iload_n hx hb dX1_init_15 rfl (lv_at hl 0 rfl) ?_
  refine lv_aload_n hx hb dX1_init_16 rfl (lv_at hl 1 rfl) ?_
  refine va_get (D := D) (ci := 1) (v := .ref q) (C := RX1) (T := TX1) (N := 3) hx hb S.2.2.2.2 iwX1 S.2.2.2.1 hK hP 0 rfl rfl 0 (by decide) (S.2.2.2.2 _ kX1_11) (fun _ h9 => h9) rfl dX1_init_17 ?_
  refine va_alen (v := 6) hx hb hK hP 1 1 rfl rfl rfl dX1_init_20 ?_
  refine lv_icmp_ge (tgt := 46) hx hb dX1_init_21 (by decide) (fun _ => ?_) (fun h => absurd (by decide) h)
  generalize hu : (fun k => match k with | 1 => q | 2 => q0 | 3 => u0 1 | 4 => q1 | 5 => u1 1 | 6 => q2 | 7 => u2 1 | 8 => q3 | 9 => u3 1 | 10 => q4 | 11 => u4 1 | 12 => q5 | 13 => u5 1 | _ => 0 : Nat → Nat) = u
  have e1 : vp_cell cA (6, .inr (.inr (.inr (.inr (va_up (va_up (va_up (va_up (va_up (va_up (fun _ => none) 0 (some q0)) 1 (some q1)) 2 (some q2)) 3 (some q3)) 4 (some q4)) 5 (some q5)))))) = vp_cell cA (6, .inr (.inr (.inr (.inr (fun j => some (u (2 + 2 * j))))))) := by
    rw [vp_cell_q, vp_cell_q]
    apply arrV_congr
    intro j hj
    subst hu
    rcases (show j = 0 ∨ j = 1 ∨ j = 2 ∨ j = 3 ∨ j = 4 ∨ j = 5 by omega) with rfl | rfl | rfl | rfl | rfl | rfl <;> rfl
  have hP := hP.set (p := 1) (a := q) (e := .inl (cA, 6, .inr (.inr (.inr (.inr (fun j => some (u (2 + 2 * j)))))))) hD rfl (by
    show H[q]? = some (vp_cell _ _)
    rw [← e1]
    exact hP 1 _ rfl) (fun _ _ => rfl)
  have hD := hD.set (p := 1) (a := q) (e := .inl (cA, 6, .inr (.inr (.inr (.inr (fun j => some (u (2 + 2 * j)))))))) rfl
  refine W.widen (k := 13) (n := 1026) (Nat.le_of_ble_eq_true rfl) (Nat.le_of_ble_eq_true rfl) ?_
  exact W.vret (hlocks := hr.2.1) hx hb hr.1 (fun t ht hW => ⟨⟨u, rfl, trivial, by rw [ht]; subst hu; exact hP, va_K.moved hW.alike hK, by subst hu; exact hD⟩, hS.F ht⟩) hS.2.2 dX1_init_46
section GROWS
variable {p : Program} {l : Launch} {e : Env} {R : Room} {s : State} {m : MethodId} {args : Array Value} {below : List Frame} {meth : Method} {c : Code} {H : Heap} {locs : List Loc} {cells slots : Nat} {Q : State → Prop}
variable {cc : ByteArray} {pc : Nat} {ls : Array Slot} {rest st : List Value}
variable {D : va_G} {cI cR : ClassId} {n : Nat} {K L ad : Nat → Nat} {μ : Mem} {own C : String} {T : u_T} {ty : Nat → FieldType} {N kd idx nL o j d : Nat}
variable {X : Type} {x : X} {A0 : Nat → Prop}
theorem g_puti (S : CallFix p m c cc nL s args TB own) (hG : gok D cI cR n K L ad s) (hP : wo D cI cR n K L ad μ H) (hA0 : ∀ q : Nat, Ag n ad q → A0 q) (hS : va_S A0 s.heap H locs) (ho : isk n K o kd) (hc : cls kd C T N ty) (hf : fldI kd j N T ty) (hlk : Cond.fieldLink own idx (T j).1 (T j).2.1 (T j).2.2.1 ∈ TB) {v : Int32} {A : Mem → Option X} (hm : pu μ o j v A = some x) (hdg : decode cc pc = .ok (.putfield idx, 3))
    (kk : ∀ (μ1 : Mem) (H1 : Heap) (locs1 : List Loc), A μ1 = some x → wo D cI cR n K L ad μ1 H1 → va_S A0 s.heap H1 locs1 → W p l e R s m args below meth c H1 locs1 cells slots Q (F0 m (pc + 3) ls rest)) : W p l e R s m args below meth c H locs cells slots Q (F0 m pc ls (.int v :: .ref (ad o) :: rest)) := by
  have hl : j < (fv ad (μ o) kd o).length := (List.getElem?_eq_some_iff.mp (hf.2.2.2.2 ad (μ o) o)).1
  refine va_put (ty := .int) (v := .int v) S.1 S.2.1 S.2.2.2.2 hc.2.2.1 ty hc.2.2.2.1 hc.2.2.2.2 S.2.2.2.1 hG.1 hP ((cw_D hG).weaken (fun _ q _ h => hA0 q.1 h)) hS o (cw_atO ho hc.1) hc.2.1 j hf.1 (S.2.2.2.2 _ hlk) (fun _ h => h) hf.2.1 (by rw [hc.2.2.2.1 j hf.1, hf.2.2.1]) rfl rfl hl hdg (fun H1 locs1 hP1 _ hS1 => ?_)
  rw [cw_upO ho hc.1 j v (hf.2.2.2.1 _ _ _ _)] at hP1
  exact kk _ H1 locs1 hm hP1 hS1
theorem g_iast (S : CallFix p m c cc nL s args TB own) (hG : gok D cI cR n K L ad s) (hP : wo D cI cR n K L ad μ H) (hA0 : ∀ q : Nat, Ag n ad q → A0 q) (hS : va_S A0 s.heap H locs) (ho : isk n K o 10) {i v : Int32} {A : Mem → Option X} (hm : ast L μ o i v A = some x) (hdg : decode cc pc = .ok (.iastore, 1))
    (kk : ∀ (μ1 : Mem) (H1 : Heap) (locs1 : List Loc), A μ1 = some x → wo D cI cR n K L ad μ1 H1 → va_S A0 s.heap H1 locs1 → W p l e R s m args below meth c H1 locs1 cells slots Q (F0 m (pc + 1) ls rest)) : W p l e R s m args below meth c H locs cells slots Q (F0 m pc ls (.int v :: .int i :: .ref (ad o) :: rest)) := by
  simp only [ald, ast, aaq] at hm
  by_cases hi : inb i (L o) = true
  · rw [if_pos hi] at hm
    refine va_iast S.1 S.2.1 hG.1 hP ((cw_D hG).weaken (fun _ q _ h => hA0 q.1 h)) hS o 0 (cw_atI ho) rfl (inb_in hi) hdg (fun H1 locs1 hP1 _ hS1 => ?_)
    rw [cw_upI ho] at hP1
    exact kk _ H1 locs1 hm hP1 hS1
  · rw [if_neg hi] at hm
    cases hm
theorem g_vcalli {y : MethodName} {cy : ByteArray} {my : Nat} {ry : Option FieldType} {rm : Room} {As : List Value} {f : Mem → Option (Int32 × Mem)} {A : Int32 → Mem → Option X} (S : CallFix p m c cc nL s args TB own) (hG : gok D cI cR n K L ad s) (hP : wo D cI cR n K L ad μ H) (hA0 : ∀ q : Nat, Ag n ad q → A0 q) (hS : va_S A0 s.heap H locs) (hM : mth y cy my ry C As.length) (hlk : Cond.methodLink own idx y ∈ TB) (hc : cls kd C T N ty) (ho : isk n K o kd)
    (hC : Ci l y cy my ry rm D cI cR n K L ad (.ref (ad o) :: As) f) (hrm : rm.cells = 0 ∧ rm.slots = 0) (hR : rm.frames + 1 ≤ R.frames ∧ 8 + (my + 11) + rm.locals ≤ R.locals) (hm : bd (f μ) A = some x) (hls : ls.size = nL) (hst : As.reverse ++ .ref (ad o) :: rest = st) (hro : (rest.map fun v => v.category).sum ≤ 8) (hcs : cells ≤ R.cells ∧ slots ≤ R.slots) (hdg : decode cc pc = .ok (.invokevirtual idx, 3))
    (kk : ∀ (r : Int32) (μ1 : Mem) (H1 : Heap) (locs1 : List Loc), A r μ1 = some x → wo D cI cR n K L ad μ1 H1 → va_S A0 s.heap H1 locs1 → W p l e R s m args below meth c H1 locs1 cells slots Q (F0 m (pc + 3) ls (.int r :: rest))) : W p l e R s m args below meth c H locs cells slots Q (F0 m pc ls st) := by
  subst hst
  cases hq : f μ with
  | none => rw [hq] at hm; cases hm
  | some q =>
    rw [hq] at hm
    refine va_calli (va_runV (As := As) (rest := rest) S (hC μ q hq) (cwV As.length S.2.2.2.2 (good_V (X1 := y) hM hlk) rfl hrm.1 hrm.2 hM.2.2.2.2 hR) ⟨PcM.blind, va_recv hG.1 hP hc.2.1 (cw_atO ho hc.1), fun U hU hW => ⟨rfl, by rw [hU]; exact hP, hG.moved hW.alike⟩⟩ rfl rfl hls rfl (lv_room hro) hdg hcs) hS (fun q _ h => hA0 q h) (fun q h => hA0 q h) (fun r u t H1 locs1 ht hvm hw hB hz1 hk1 hS1 => ?_)
    subst ht
    cases hw
    exact kk q.1 q.2 t.heap locs1 hm hB.1 hS1
theorem g_vcallv {y : MethodName} {cy : ByteArray} {my : Nat} {ry : Option FieldType} {rm : Room} {As : List Value} {f : Mem → Option (Mem)} {A : Mem → Option X} (S : CallFix p m c cc nL s args TB own) (hG : gok D cI cR n K L ad s) (hP : wo D cI cR n K L ad μ H) (hA0 : ∀ q : Nat, Ag n ad q → A0 q) (hS : va_S A0 s.heap H locs) (hM : mth y cy my ry C As.length) (hlk : Cond.methodLink own idx y ∈ TB) (hc : cls kd C T N ty) (ho : isk n K o kd)
    (hC : Cv l y cy my ry rm D cI cR n K L ad (.ref (ad o) :: As) f) (hrm : rm.cells = 0 ∧ rm.slots = 0) (hR : rm.frames + 1 ≤ R.frames ∧ 8 + (my + 11) + rm.locals ≤ R.locals) (hm : bv (f μ) A = some x) (hls : ls.size = nL) (hst : As.reverse ++ .ref (ad o) :: rest = st) (hro : (rest.map fun v => v.category).sum ≤ 8) (hcs : cells ≤ R.cells ∧ slots ≤ R.slots) (hdg : decode cc pc = .ok (.invokevirtual idx, 3))
    (kk : ∀ (μ1 : Mem) (H1 : Heap) (locs1 : List Loc), A μ1 = some x → wo D cI cR n K L ad μ1 H1 → va_S A0 s.heap H1 locs1 → W p l e R s m args below meth c H1 locs1 cells slots Q (F0 m (pc + 3) ls (rest))) : W p l e R s m args below meth c H locs cells slots Q (F0 m pc ls st) := by
  subst hst
  cases hq : f μ with
  | none => rw [hq] at hm; cases hm
  | some q =>
    rw [hq] at hm
    refine va_callv (va_runV (As := As) (rest := rest) S (hC μ q hq) (cwV As.length S.2.2.2.2 (good_V (X1 := y) hM hlk) rfl hrm.1 hrm.2 hM.2.2.2.2 hR) ⟨PcM.blind, va_recv hG.1 hP hc.2.1 (cw_atO ho hc.1), fun U hU hW => ⟨rfl, by rw [hU]; exact hP, hG.moved hW.alike⟩⟩ rfl rfl hls rfl (lv_room hro) hdg hcs) hS (fun q _ h => hA0 q h) (fun q h => hA0 q h) (fun u t H1 locs1 ht hvm hw hB hz1 hk1 hS1 => ?_)
    subst ht
    exact kk q t.heap locs1 hm hB.1 hS1
end GROWS
