theorem clw {ws : List Cond} (ps : List Nat) (hp : ws = ps.filterMap (fun i => lw_tbl[i]?)) (h : ws.all goodWord = true) : ∀ w ∈ ws, w ∈ TB := by
  intro w hw
  have h1 := List.all_eq_true.mp h w hw
  rw [hp] at hw
  obtain ⟨i, -, hi⟩ := List.mem_filterMap.mp hw
  exact tb_of (List.mem_of_getElem? hi) h1
set_option maxRecDepth 100000 in
theorem iwX0 : ∀ w ∈ u_ws RX0 TX0 7, w ∈ TB := clw [140, 142, 144, 146, 148, 150, 152] (by decide +kernel) (by decide +kernel)
theorem clX0 : cls 0 RX0 TX0 7 tyX0 := ⟨by decide, rfl, iwX0, tyX0_ok, nmX0⟩
set_option maxRecDepth 100000 in
theorem iwX1 : ∀ w ∈ u_ws RX1 TX1 3, w ∈ TB := clw [187, 189, 191] (by decide +kernel) (by decide +kernel)
theorem clX1 : cls 1 RX1 TX1 3 tyX1 := ⟨by decide, rfl, iwX1, tyX1_ok, nmX1⟩
set_option maxRecDepth 100000 in
theorem iwX2 : ∀ w ∈ u_ws RX2 TX2 2, w ∈ TB := clw [120, 122] (by decide +kernel) (by decide +kernel)
theorem clX2 : cls 2 RX2 TX2 2 tyX2 := ⟨by decide, rfl, iwX2, tyX2_ok, nmX2⟩
set_option maxRecDepth 100000 in
theorem iwX3 : ∀ w ∈ u_ws RX3 TX3 1, w ∈ TB := clw [99] (by decide +kernel) (by decide +kernel)
theorem clX3 : cls 3 RX3 TX3 1 tyX3 := ⟨by decide, rfl, iwX3, tyX3_ok, nmX3⟩
set_option maxRecDepth 100000 in
theorem iwX4 : ∀ w ∈ u_ws RX4 TX4 11, w ∈ TB := clw [213, 215, 217, 219, 221, 223, 225, 227, 229, 231, 233] (by decide +kernel) (by decide +kernel)
theorem clX4 : cls 4 RX4 TX4 11 tyX4 := ⟨by decide, rfl, iwX4, tyX4_ok, nmX4⟩
set_option maxRecDepth 100000 in
theorem iwX5 : ∀ w ∈ u_ws RX5 TX5 3, w ∈ TB := clw [168, 170, 172] (by decide +kernel) (by decide +kernel)
theorem clX5 : cls 5 RX5 TX5 3 tyX5 := ⟨by decide, rfl, iwX5, tyX5_ok, nmX5⟩
set_option maxRecDepth 100000 in
theorem iwX6 : ∀ w ∈ u_ws RX6 TX6 2, w ∈ TB := clw [105, 107] (by decide +kernel) (by decide +kernel)
theorem clX6 : cls 6 RX6 TX6 2 tyX6 := ⟨by decide, rfl, iwX6, tyX6_ok, nmX6⟩
set_option maxRecDepth 100000 in
theorem iwX7 : ∀ w ∈ u_ws RX7 TX7 3, w ∈ TB := clw [247, 249, 251] (by decide +kernel) (by decide +kernel)
theorem clX7 : cls 7 RX7 TX7 3 tyX7 := ⟨by decide, rfl, iwX7, tyX7_ok, nmX7⟩
set_option maxRecDepth 100000 in
theorem iwX8 : ∀ w ∈ u_ws RX8 TX8 9, w ∈ TB := clw [447, 449, 451, 453, 455, 457, 459, 461, 463] (by decide +kernel) (by decide +kernel)
theorem clX8 : cls 8 RX8 TX8 9 tyX8 := ⟨by decide, rfl, iwX8, tyX8_ok, nmX8⟩
set_option maxRecDepth 100000 in
theorem iwX9 : ∀ w ∈ u_ws RX9 TX9 31, w ∈ TB := clw [930, 932, 934, 936, 938, 940, 942, 944, 946, 948, 950, 952, 954, 956, 958, 960, 962, 964, 966, 968, 970, 972, 974, 976, 978, 980, 982, 984, 986, 988, 990] (by decide +kernel) (by decide +kernel)
theorem clX9 : cls 9 RX9 TX9 31 tyX9 := ⟨by decide, rfl, iwX9, tyX9_ok, nmX9⟩
theorem fX0_0 : fldR 0 0 1 7 := ⟨by decide, fun _ _ _ => rfl⟩
theorem fX0_1 : fldR 0 1 3 7 := ⟨by decide, fun _ _ _ => rfl⟩
theorem fX0_2 : fldR 0 2 5 7 := ⟨by decide, fun _ _ _ => rfl⟩
theorem fX0_3 : fldR 0 3 7 7 := ⟨by decide, fun _ _ _ => rfl⟩
theorem fX0_4 : fldI 0 4 7 TX0 tyX0 := ⟨by decide, rfl, rfl, fun _ _ _ _ => rfl, fun _ _ _ => rfl⟩
theorem fX0_5 : fldI 0 5 7 TX0 tyX0 := ⟨by decide, rfl, rfl, fun _ _ _ _ => rfl, fun _ _ _ => rfl⟩
theorem fX0_6 : fldI 0 6 7 TX0 tyX0 := ⟨by decide, rfl, rfl, fun _ _ _ _ => rfl, fun _ _ _ => rfl⟩
theorem fX1_0 : fldR 1 0 1 3 := ⟨by decide, fun _ _ _ => rfl⟩
theorem fX1_1 : fldI 1 1 3 TX1 tyX1 := ⟨by decide, rfl, rfl, fun _ _ _ _ => rfl, fun _ _ _ => rfl⟩
theorem fX1_2 : fldI 1 2 3 TX1 tyX1 := ⟨by decide, rfl, rfl, fun _ _ _ _ => rfl, fun _ _ _ => rfl⟩
theorem fX2_0 : fldR 2 0 1 2 := ⟨by decide, fun _ _ _ => rfl⟩
theorem fX2_1 : fldI 2 1 2 TX2 tyX2 := ⟨by decide, rfl, rfl, fun _ _ _ _ => rfl, fun _ _ _ => rfl⟩
theorem fX3_0 : fldR 3 0 1 1 := ⟨by decide, fun _ _ _ => rfl⟩
theorem fX4_0 : fldR 4 0 1 11 := ⟨by decide, fun _ _ _ => rfl⟩
theorem fX4_1 : fldR 4 1 3 11 := ⟨by decide, fun _ _ _ => rfl⟩
theorem fX4_2 : fldI 4 2 11 TX4 tyX4 := ⟨by decide, rfl, rfl, fun _ _ _ _ => rfl, fun _ _ _ => rfl⟩
theorem fX4_3 : fldI 4 3 11 TX4 tyX4 := ⟨by decide, rfl, rfl, fun _ _ _ _ => rfl, fun _ _ _ => rfl⟩
theorem fX4_4 : fldI 4 4 11 TX4 tyX4 := ⟨by decide, rfl, rfl, fun _ _ _ _ => rfl, fun _ _ _ => rfl⟩
theorem fX4_5 : fldI 4 5 11 TX4 tyX4 := ⟨by decide, rfl, rfl, fun _ _ _ _ => rfl, fun _ _ _ => rfl⟩
theorem fX4_6 : fldI 4 6 11 TX4 tyX4 := ⟨by decide, rfl, rfl, fun _ _ _ _ => rfl, fun _ _ _ => rfl⟩
theorem fX4_7 : fldI 4 7 11 TX4 tyX4 := ⟨by decide, rfl, rfl, fun _ _ _ _ => rfl, fun _ _ _ => rfl⟩
theorem fX4_8 : fldI 4 8 11 TX4 tyX4 := ⟨by decide, rfl, rfl, fun _ _ _ _ => rfl, fun _ _ _ => rfl⟩
theorem fX4_9 : fldI 4 9 11 TX4 tyX4 := ⟨by decide, rfl, rfl, fun _ _ _ _ => rfl, fun _ _ _ => rfl⟩
theorem fX4_10 : fldI 4 10 11 TX4 tyX4 := ⟨by decide, rfl, rfl, fun _ _ _ _ => rfl, fun _ _ _ => rfl⟩
theorem fX5_0 : fldR 5 0 1 3 := ⟨by decide, fun _ _ _ => rfl⟩
theorem fX5_1 : fldR 5 1 3 3 := ⟨by decide, fun _ _ _ => rfl⟩
theorem fX5_2 : fldR 5 2 5 3 := ⟨by decide, fun _ _ _ => rfl⟩
theorem fX6_0 : fldR 6 0 1 2 := ⟨by decide, fun _ _ _ => rfl⟩
theorem fX6_1 : fldI 6 1 2 TX6 tyX6 := ⟨by decide, rfl, rfl, fun _ _ _ _ => rfl, fun _ _ _ => rfl⟩
theorem fX7_0 : fldR 7 0 1 3 := ⟨by decide, fun _ _ _ => rfl⟩
theorem fX7_1 : fldI 7 1 3 TX7 tyX7 := ⟨by decide, rfl, rfl, fun _ _ _ _ => rfl, fun _ _ _ => rfl⟩
theorem fX7_2 : fldI 7 2 3 TX7 tyX7 := ⟨by decide, rfl, rfl, fun _ _ _ _ => rfl, fun _ _ _ => rfl⟩
theorem fX8_0 : fldR 8 0 1 9 := ⟨by decide, fun _ _ _ => rfl⟩
theorem fX8_1 : fldR 8 1 4 9 := ⟨by decide, fun _ _ _ => rfl⟩
theorem fX8_2 : fldR 8 2 7 9 := ⟨by decide, fun _ _ _ => rfl⟩
theorem fX8_3 : fldR 8 3 16 9 := ⟨by decide, fun _ _ _ => rfl⟩
theorem fX8_4 : fldR 8 4 25 9 := ⟨by decide, fun _ _ _ => rfl⟩
theorem fX8_5 : fldR 8 5 27 9 := ⟨by decide, fun _ _ _ => rfl⟩
theorem fX8_6 : fldR 8 6 34 9 := ⟨by decide, fun _ _ _ => rfl⟩
theorem fX8_7 : fldR 8 7 48 9 := ⟨by decide, fun _ _ _ => rfl⟩
theorem fX8_8 : fldR 8 8 53 9 := ⟨by decide, fun _ _ _ => rfl⟩
theorem fX9_0 : fldI 9 0 31 TX9 tyX9 := ⟨by decide, rfl, rfl, fun _ _ _ _ => rfl, fun _ _ _ => rfl⟩
theorem fX9_1 : fldR 9 1 1 31 := ⟨by decide, fun _ _ _ => rfl⟩
theorem fX9_2 : fldI 9 2 31 TX9 tyX9 := ⟨by decide, rfl, rfl, fun _ _ _ _ => rfl, fun _ _ _ => rfl⟩
theorem fX9_3 : fldR 9 3 2 31 := ⟨by decide, fun _ _ _ => rfl⟩
theorem fX9_4 : fldI 9 4 31 TX9 tyX9 := ⟨by decide, rfl, rfl, fun _ _ _ _ => rfl, fun _ _ _ => rfl⟩
theorem fX9_5 : fldR 9 5 3 31 := ⟨by decide, fun _ _ _ => rfl⟩
theorem fX9_6 : fldR 9 6 4 31 := ⟨by decide, fun _ _ _ => rfl⟩
theorem fX9_7 : fldI 9 7 31 TX9 tyX9 := ⟨by decide, rfl, rfl, fun _ _ _ _ => rfl, fun _ _ _ => rfl⟩
theorem fX9_8 : fldR 9 8 5 31 := ⟨by decide, fun _ _ _ => rfl⟩
theorem fX9_9 : fldR 9 9 6 31 := ⟨by decide, fun _ _ _ => rfl⟩
theorem fX9_10 : fldR 9 10 7 31 := ⟨by decide, fun _ _ _ => rfl⟩
theorem fX9_11 : fldI 9 11 31 TX9 tyX9 := ⟨by decide, rfl, rfl, fun _ _ _ _ => rfl, fun _ _ _ => rfl⟩
theorem fX9_12 : fldR 9 12 8 31 := ⟨by decide, fun _ _ _ => rfl⟩
theorem fX9_13 : fldI 9 13 31 TX9 tyX9 := ⟨by decide, rfl, rfl, fun _ _ _ _ => rfl, fun _ _ _ => rfl⟩
theorem fX9_14 : fldR 9 14 9 31 := ⟨by decide, fun _ _ _ => rfl⟩
theorem fX9_15 : fldI 9 15 31 TX9 tyX9 := ⟨by decide, rfl, rfl, fun _ _ _ _ => rfl, fun _ _ _ => rfl⟩
theorem fX9_16 : fldR 9 16 10 31 := ⟨by decide, fun _ _ _ => rfl⟩
theorem fX9_17 : fldR 9 17 11 31 := ⟨by decide, fun _ _ _ => rfl⟩
theorem fX9_18 : fldI 9 18 31 TX9 tyX9 := ⟨by decide, rfl, rfl, fun _ _ _ _ => rfl, fun _ _ _ => rfl⟩
theorem fX9_19 : fldR 9 19 12 31 := ⟨by decide, fun _ _ _ => rfl⟩
theorem fX9_20 : fldI 9 20 31 TX9 tyX9 := ⟨by decide, rfl, rfl, fun _ _ _ _ => rfl, fun _ _ _ => rfl⟩
theorem fX9_21 : fldI 9 21 31 TX9 tyX9 := ⟨by decide, rfl, rfl, fun _ _ _ _ => rfl, fun _ _ _ => rfl⟩
theorem fX9_22 : fldR 9 22 13 31 := ⟨by decide, fun _ _ _ => rfl⟩
theorem fX9_23 : fldR 9 23 14 31 := ⟨by decide, fun _ _ _ => rfl⟩
theorem fX9_24 : fldR 9 24 15 31 := ⟨by decide, fun _ _ _ => rfl⟩
theorem fX9_25 : fldR 9 25 16 31 := ⟨by decide, fun _ _ _ => rfl⟩
theorem fX9_26 : fldI 9 26 31 TX9 tyX9 := ⟨by decide, rfl, rfl, fun _ _ _ _ => rfl, fun _ _ _ => rfl⟩
theorem fX9_27 : fldI 9 27 31 TX9 tyX9 := ⟨by decide, rfl, rfl, fun _ _ _ _ => rfl, fun _ _ _ => rfl⟩
theorem fX9_28 : fldI 9 28 31 TX9 tyX9 := ⟨by decide, rfl, rfl, fun _ _ _ _ => rfl, fun _ _ _ => rfl⟩
theorem fX9_29 : fldI 9 29 31 TX9 tyX9 := ⟨by decide, rfl, rfl, fun _ _ _ _ => rfl, fun _ _ _ => rfl⟩
theorem fX9_30 : fldI 9 30 31 TX9 tyX9 := ⟨by decide, rfl, rfl, fun _ _ _ _ => rfl, fun _ _ _ => rfl⟩
theorem chX0_0 {D : va_G} {cI cR : ClassId} {n : Nat} {K L ad : Nat → Nat} {s : State} {o : Nat} (hG : gok D cI cR n K L ad s) (ho : isk n K o 0) : isk n K (o + 1) 3 := (hG.2.2.1 o ho).1
theorem chX0_1 {D : va_G} {cI cR : ClassId} {n : Nat} {K L ad : Nat → Nat} {s : State} {o : Nat} (hG : gok D cI cR n K L ad s) (ho : isk n K o 0) : isk n K (o + 3) 3 := (hG.2.2.1 o ho).2.1
theorem chX0_2 {D : va_G} {cI cR : ClassId} {n : Nat} {K L ad : Nat → Nat} {s : State} {o : Nat} (hG : gok D cI cR n K L ad s) (ho : isk n K o 0) : isk n K (o + 5) 3 := (hG.2.2.1 o ho).2.2.1
theorem chX0_3 {D : va_G} {cI cR : ClassId} {n : Nat} {K L ad : Nat → Nat} {s : State} {o : Nat} (hG : gok D cI cR n K L ad s) (ho : isk n K o 0) : isk n K (o + 7) 3 := (hG.2.2.1 o ho).2.2.2
theorem chX1_0 {D : va_G} {cI cR : ClassId} {n : Nat} {K L ad : Nat → Nat} {s : State} {o : Nat} (hG : gok D cI cR n K L ad s) (ho : isk n K o 1) : isk n K (o + 1) 11 := hG.2.2.2.1 o ho
theorem chX2_0 {D : va_G} {cI cR : ClassId} {n : Nat} {K L ad : Nat → Nat} {s : State} {o : Nat} (hG : gok D cI cR n K L ad s) (ho : isk n K o 2) : isk n K (o + 1) 3 := hG.2.2.2.2.1 o ho
theorem chX3_0 {D : va_G} {cI cR : ClassId} {n : Nat} {K L ad : Nat → Nat} {s : State} {o : Nat} (hG : gok D cI cR n K L ad s) (ho : isk n K o 3) : isk n K (o + 1) 10 := hG.2.2.2.2.2.1 o ho
theorem chX4_0 {D : va_G} {cI cR : ClassId} {n : Nat} {K L ad : Nat → Nat} {s : State} {o : Nat} (hG : gok D cI cR n K L ad s) (ho : isk n K o 4) : isk n K (o + 1) 3 := (hG.2.2.2.2.2.2.1 o ho).1
theorem chX4_1 {D : va_G} {cI cR : ClassId} {n : Nat} {K L ad : Nat → Nat} {s : State} {o : Nat} (hG : gok D cI cR n K L ad s) (ho : isk n K o 4) : isk n K (o + 3) 3 := (hG.2.2.2.2.2.2.1 o ho).2
theorem chX5_0 {D : va_G} {cI cR : ClassId} {n : Nat} {K L ad : Nat → Nat} {s : State} {o : Nat} (hG : gok D cI cR n K L ad s) (ho : isk n K o 5) : isk n K (o + 1) 3 := (hG.2.2.2.2.2.2.2.1 o ho).1
theorem chX5_1 {D : va_G} {cI cR : ClassId} {n : Nat} {K L ad : Nat → Nat} {s : State} {o : Nat} (hG : gok D cI cR n K L ad s) (ho : isk n K o 5) : isk n K (o + 3) 3 := (hG.2.2.2.2.2.2.2.1 o ho).2.1
theorem chX5_2 {D : va_G} {cI cR : ClassId} {n : Nat} {K L ad : Nat → Nat} {s : State} {o : Nat} (hG : gok D cI cR n K L ad s) (ho : isk n K o 5) : isk n K (o + 5) 3 := (hG.2.2.2.2.2.2.2.1 o ho).2.2
theorem chX6_0 {D : va_G} {cI cR : ClassId} {n : Nat} {K L ad : Nat → Nat} {s : State} {o : Nat} (hG : gok D cI cR n K L ad s) (ho : isk n K o 6) : isk n K (o + 1) 3 := hG.2.2.2.2.2.2.2.2.1 o ho
theorem chX7_0 {D : va_G} {cI cR : ClassId} {n : Nat} {K L ad : Nat → Nat} {s : State} {o : Nat} (hG : gok D cI cR n K L ad s) (ho : isk n K o 7) : isk n K (o + 1) 3 := hG.2.2.2.2.2.2.2.2.2.1 o ho
theorem chX8_0 {D : va_G} {cI cR : ClassId} {n : Nat} {K L ad : Nat → Nat} {s : State} {o : Nat} (hG : gok D cI cR n K L ad s) (ho : isk n K o 8) : isk n K (o + 1) 6 := (hG.2.2.2.2.2.2.2.2.2.2.1 o ho).1
theorem chX8_1 {D : va_G} {cI cR : ClassId} {n : Nat} {K L ad : Nat → Nat} {s : State} {o : Nat} (hG : gok D cI cR n K L ad s) (ho : isk n K o 8) : isk n K (o + 4) 2 := (hG.2.2.2.2.2.2.2.2.2.2.1 o ho).2.1
theorem chX8_2 {D : va_G} {cI cR : ClassId} {n : Nat} {K L ad : Nat → Nat} {s : State} {o : Nat} (hG : gok D cI cR n K L ad s) (ho : isk n K o 8) : isk n K (o + 7) 0 := (hG.2.2.2.2.2.2.2.2.2.2.1 o ho).2.2.1
theorem chX8_3 {D : va_G} {cI cR : ClassId} {n : Nat} {K L ad : Nat → Nat} {s : State} {o : Nat} (hG : gok D cI cR n K L ad s) (ho : isk n K o 8) : isk n K (o + 16) 0 := (hG.2.2.2.2.2.2.2.2.2.2.1 o ho).2.2.2.1
theorem chX8_4 {D : va_G} {cI cR : ClassId} {n : Nat} {K L ad : Nat → Nat} {s : State} {o : Nat} (hG : gok D cI cR n K L ad s) (ho : isk n K o 8) : isk n K (o + 25) 3 := (hG.2.2.2.2.2.2.2.2.2.2.1 o ho).2.2.2.2.1
theorem chX8_5 {D : va_G} {cI cR : ClassId} {n : Nat} {K L ad : Nat → Nat} {s : State} {o : Nat} (hG : gok D cI cR n K L ad s) (ho : isk n K o 8) : isk n K (o + 27) 5 := (hG.2.2.2.2.2.2.2.2.2.2.1 o ho).2.2.2.2.2.1
theorem chX8_6 {D : va_G} {cI cR : ClassId} {n : Nat} {K L ad : Nat → Nat} {s : State} {o : Nat} (hG : gok D cI cR n K L ad s) (ho : isk n K o 8) : isk n K (o + 34) 1 := (hG.2.2.2.2.2.2.2.2.2.2.1 o ho).2.2.2.2.2.2.1
theorem chX8_7 {D : va_G} {cI cR : ClassId} {n : Nat} {K L ad : Nat → Nat} {s : State} {o : Nat} (hG : gok D cI cR n K L ad s) (ho : isk n K o 8) : isk n K (o + 48) 4 := (hG.2.2.2.2.2.2.2.2.2.2.1 o ho).2.2.2.2.2.2.2.1
theorem chX8_8 {D : va_G} {cI cR : ClassId} {n : Nat} {K L ad : Nat → Nat} {s : State} {o : Nat} (hG : gok D cI cR n K L ad s) (ho : isk n K o 8) : isk n K (o + 53) 7 := (hG.2.2.2.2.2.2.2.2.2.2.1 o ho).2.2.2.2.2.2.2.2
theorem chX9_1 {D : va_G} {cI cR : ClassId} {n : Nat} {K L ad : Nat → Nat} {s : State} {o : Nat} (hG : gok D cI cR n K L ad s) (ho : isk n K o 9) : isk n K (o + 1) 10 := hG.2.2.2.2.2.2.2.2.2.2.2.1 o ho 0 (by decide)
theorem chX9_3 {D : va_G} {cI cR : ClassId} {n : Nat} {K L ad : Nat → Nat} {s : State} {o : Nat} (hG : gok D cI cR n K L ad s) (ho : isk n K o 9) : isk n K (o + 2) 10 := hG.2.2.2.2.2.2.2.2.2.2.2.1 o ho 1 (by decide)
theorem chX9_5 {D : va_G} {cI cR : ClassId} {n : Nat} {K L ad : Nat → Nat} {s : State} {o : Nat} (hG : gok D cI cR n K L ad s) (ho : isk n K o 9) : isk n K (o + 3) 10 := hG.2.2.2.2.2.2.2.2.2.2.2.1 o ho 2 (by decide)
theorem chX9_6 {D : va_G} {cI cR : ClassId} {n : Nat} {K L ad : Nat → Nat} {s : State} {o : Nat} (hG : gok D cI cR n K L ad s) (ho : isk n K o 9) : isk n K (o + 4) 10 := hG.2.2.2.2.2.2.2.2.2.2.2.1 o ho 3 (by decide)
theorem chX9_8 {D : va_G} {cI cR : ClassId} {n : Nat} {K L ad : Nat → Nat} {s : State} {o : Nat} (hG : gok D cI cR n K L ad s) (ho : isk n K o 9) : isk n K (o + 5) 10 := hG.2.2.2.2.2.2.2.2.2.2.2.1 o ho 4 (by decide)
theorem chX9_9 {D : va_G} {cI cR : ClassId} {n : Nat} {K L ad : Nat → Nat} {s : State} {o : Nat} (hG : gok D cI cR n K L ad s) (ho : isk n K o 9) : isk n K (o + 6) 10 := hG.2.2.2.2.2.2.2.2.2.2.2.1 o ho 5 (by decide)
theorem chX9_10 {D : va_G} {cI cR : ClassId} {n : Nat} {K L ad : Nat → Nat} {s : State} {o : Nat} (hG : gok D cI cR n K L ad s) (ho : isk n K o 9) : isk n K (o + 7) 10 := hG.2.2.2.2.2.2.2.2.2.2.2.1 o ho 6 (by decide)
theorem chX9_12 {D : va_G} {cI cR : ClassId} {n : Nat} {K L ad : Nat → Nat} {s : State} {o : Nat} (hG : gok D cI cR n K L ad s) (ho : isk n K o 9) : isk n K (o + 8) 10 := hG.2.2.2.2.2.2.2.2.2.2.2.1 o ho 7 (by decide)
theorem chX9_14 {D : va_G} {cI cR : ClassId} {n : Nat} {K L ad : Nat → Nat} {s : State} {o : Nat} (hG : gok D cI cR n K L ad s) (ho : isk n K o 9) : isk n K (o + 9) 10 := hG.2.2.2.2.2.2.2.2.2.2.2.1 o ho 8 (by decide)
theorem chX9_16 {D : va_G} {cI cR : ClassId} {n : Nat} {K L ad : Nat → Nat} {s : State} {o : Nat} (hG : gok D cI cR n K L ad s) (ho : isk n K o 9) : isk n K (o + 10) 10 := hG.2.2.2.2.2.2.2.2.2.2.2.1 o ho 9 (by decide)
theorem chX9_17 {D : va_G} {cI cR : ClassId} {n : Nat} {K L ad : Nat → Nat} {s : State} {o : Nat} (hG : gok D cI cR n K L ad s) (ho : isk n K o 9) : isk n K (o + 11) 10 := hG.2.2.2.2.2.2.2.2.2.2.2.1 o ho 10 (by decide)
theorem chX9_19 {D : va_G} {cI cR : ClassId} {n : Nat} {K L ad : Nat → Nat} {s : State} {o : Nat} (hG : gok D cI cR n K L ad s) (ho : isk n K o 9) : isk n K (o + 12) 10 := hG.2.2.2.2.2.2.2.2.2.2.2.1 o ho 11 (by decide)
theorem chX9_22 {D : va_G} {cI cR : ClassId} {n : Nat} {K L ad : Nat → Nat} {s : State} {o : Nat} (hG : gok D cI cR n K L ad s) (ho : isk n K o 9) : isk n K (o + 13) 10 := hG.2.2.2.2.2.2.2.2.2.2.2.1 o ho 12 (by decide)
theorem chX9_23 {D : va_G} {cI cR : ClassId} {n : Nat} {K L ad : Nat → Nat} {s : State} {o : Nat} (hG : gok D cI cR n K L ad s) (ho : isk n K o 9) : isk n K (o + 14) 10 := hG.2.2.2.2.2.2.2.2.2.2.2.1 o ho 13 (by decide)
theorem chX9_24 {D : va_G} {cI cR : ClassId} {n : Nat} {K L ad : Nat → Nat} {s : State} {o : Nat} (hG : gok D cI cR n K L ad s) (ho : isk n K o 9) : isk n K (o + 15) 10 := hG.2.2.2.2.2.2.2.2.2.2.2.1 o ho 14 (by decide)
theorem chX9_25 {D : va_G} {cI cR : ClassId} {n : Nat} {K L ad : Nat → Nat} {s : State} {o : Nat} (hG : gok D cI cR n K L ad s) (ho : isk n K o 9) : isk n K (o + 16) 10 := hG.2.2.2.2.2.2.2.2.2.2.2.1 o ho 15 (by decide)
theorem mX0_clear : mth yX0_clear cX0_clear 1 none RX0 0 := ⟨tb2 18 (by decide +kernel) rfl, tb2 19 (by decide +kernel) rfl, tb1 6 (by decide +kernel) rfl, tb2 20 rfl rfl, ⟨rfl, by decide +kernel, by decide +kernel, by decide +kernel⟩⟩
theorem mX0_takeAll : mth yX0_takeAll cX0_takeAll 2 none RX0 1 := ⟨tb2 191 (by decide +kernel) rfl, tb2 192 (by decide +kernel) rfl, tb1 6 (by decide +kernel) rfl, tb2 193 rfl rfl, ⟨rfl, by decide +kernel, by decide +kernel, by decide +kernel⟩⟩
theorem mX0_tellTop : mth yX0_tellTop cX0_tellTop 2 (some .boolean) RX0 1 := ⟨tb2 62 (by decide +kernel) rfl, tb2 63 (by decide +kernel) rfl, tb1 6 (by decide +kernel) rfl, tb2 64 rfl rfl, ⟨rfl, by decide +kernel, by decide +kernel, by decide +kernel⟩⟩
theorem mX0_addName : mth yX0_addName cX0_addName 2 (some .boolean) RX0 1 := ⟨tb2 66 (by decide +kernel) rfl, tb2 67 (by decide +kernel) rfl, tb1 6 (by decide +kernel) rfl, tb2 68 rfl rfl, ⟨rfl, by decide +kernel, by decide +kernel, by decide +kernel⟩⟩
theorem mX0_tellSingle : mth yX0_tellSingle cX0_tellSingle 4 (some .boolean) RX0 3 := ⟨tb2 71 (by decide +kernel) rfl, tb2 72 (by decide +kernel) rfl, tb1 6 (by decide +kernel) rfl, tb2 73 rfl rfl, ⟨rfl, by decide +kernel, by decide +kernel, by decide +kernel⟩⟩
theorem mX0_addTable : mth yX0_addTable cX0_addTable 6 (some .boolean) RX0 3 := ⟨tb2 87 (by decide +kernel) rfl, tb2 88 (by decide +kernel) rfl, tb1 6 (by decide +kernel) rfl, tb2 89 rfl rfl, ⟨rfl, by decide +kernel, by decide +kernel, by decide +kernel⟩⟩
theorem mX0_isJoined : mth yX0_isJoined cX0_isJoined 4 (some .boolean) RX0 2 := ⟨tb2 96 (by decide +kernel) rfl, tb0 5 (by decide +kernel) rfl, tb1 6 (by decide +kernel) rfl, tb2 97 rfl rfl, ⟨rfl, by decide +kernel, by decide +kernel, by decide +kernel⟩⟩
theorem mX0_tellPair : mth yX0_tellPair cX0_tellPair 5 (some .boolean) RX0 4 := ⟨tb2 117 (by decide +kernel) rfl, tb2 118 (by decide +kernel) rfl, tb1 6 (by decide +kernel) rfl, tb2 119 rfl rfl, ⟨rfl, by decide +kernel, by decide +kernel, by decide +kernel⟩⟩
theorem mX0_keepToTop : mth yX0_keepToTop cX0_keepToTop 2 none RX0 0 := ⟨tb2 133 (by decide +kernel) rfl, tb2 134 (by decide +kernel) rfl, tb1 6 (by decide +kernel) rfl, tb2 135 rfl rfl, ⟨rfl, by decide +kernel, by decide +kernel, by decide +kernel⟩⟩
theorem mX0_names : mth yX0_names cX0_names 1 (some .int) RX0 0 := ⟨tb2 187 (by decide +kernel) rfl, tb2 188 (by decide +kernel) rfl, tb1 6 (by decide +kernel) rfl, tb2 189 rfl rfl, ⟨rfl, by decide +kernel, by decide +kernel, by decide +kernel⟩⟩
theorem mX0_tables : mth yX0_tables cX0_tables 1 (some .int) RX0 0 := ⟨tb3 130 (by decide +kernel) rfl, tb3 131 (by decide +kernel) rfl, tb1 6 (by decide +kernel) rfl, tb3 132 rfl rfl, ⟨rfl, by decide +kernel, by decide +kernel, by decide +kernel⟩⟩
theorem mX0_top : mth yX0_top cX0_top 1 (some .int) RX0 0 := ⟨tb3 157 (by decide +kernel) rfl, tb3 158 (by decide +kernel) rfl, tb1 6 (by decide +kernel) rfl, tb3 159 rfl rfl, ⟨rfl, by decide +kernel, by decide +kernel, by decide +kernel⟩⟩
theorem mX0_hasName : mth yX0_hasName cX0_hasName 2 (some .boolean) RX0 1 := ⟨tb2 91 (by decide +kernel) rfl, tb2 92 (by decide +kernel) rfl, tb1 6 (by decide +kernel) rfl, tb2 93 rfl rfl, ⟨rfl, by decide +kernel, by decide +kernel, by decide +kernel⟩⟩
theorem mX0_hasValue : mth yX0_hasValue cX0_hasValue 3 (some .boolean) RX0 2 := ⟨tb2 75 (by decide +kernel) rfl, tb2 76 (by decide +kernel) rfl, tb1 6 (by decide +kernel) rfl, tb2 77 rfl rfl, ⟨rfl, by decide +kernel, by decide +kernel, by decide +kernel⟩⟩
theorem mX0_hasTable : mth yX0_hasTable cX0_hasTable 2 (some .boolean) RX0 1 := ⟨tb2 125 (by decide +kernel) rfl, tb2 126 (by decide +kernel) rfl, tb1 6 (by decide +kernel) rfl, tb2 127 rfl rfl, ⟨rfl, by decide +kernel, by decide +kernel, by decide +kernel⟩⟩
theorem mX0_hasValueOn : mth yX0_hasValueOn cX0_hasValueOn 4 (some .boolean) RX0 3 := ⟨tb3 86 (by decide +kernel) rfl, tb3 87 (by decide +kernel) rfl, tb1 6 (by decide +kernel) rfl, tb3 88 rfl rfl, ⟨rfl, by decide +kernel, by decide +kernel, by decide +kernel⟩⟩
theorem mX0_hasPair : mth yX0_hasPair cX0_hasPair 4 (some .boolean) RX0 3 := ⟨tb2 121 (by decide +kernel) rfl, tb2 122 (by decide +kernel) rfl, tb1 6 (by decide +kernel) rfl, tb2 123 rfl rfl, ⟨rfl, by decide +kernel, by decide +kernel, by decide +kernel⟩⟩
theorem mX0_valuesOf : mth yX0_valuesOf cX0_valuesOf 2 (some .int) RX0 1 := ⟨tb2 103 (by decide +kernel) rfl, tb2 104 (by decide +kernel) rfl, tb1 6 (by decide +kernel) rfl, tb2 105 rfl rfl, ⟨rfl, by decide +kernel, by decide +kernel, by decide +kernel⟩⟩
theorem mX0_nameOn : mth yX0_nameOn cX0_nameOn 3 (some .int) RX0 2 := ⟨tb2 99 (by decide +kernel) rfl, tb2 100 (by decide +kernel) rfl, tb1 6 (by decide +kernel) rfl, tb2 101 rfl rfl, ⟨rfl, by decide +kernel, by decide +kernel, by decide +kernel⟩⟩
theorem mX0_valuesOn : mth yX0_valuesOn cX0_valuesOn 3 (some .int) RX0 2 := ⟨tb2 129 (by decide +kernel) rfl, tb2 130 (by decide +kernel) rfl, tb1 6 (by decide +kernel) rfl, tb2 131 rfl rfl, ⟨rfl, by decide +kernel, by decide +kernel, by decide +kernel⟩⟩
theorem mX0_tablesOf : mth yX0_tablesOf cX0_tablesOf 4 (some .int) RX0 1 := ⟨tb2 211 (by decide +kernel) rfl, tb2 212 (by decide +kernel) rfl, tb1 6 (by decide +kernel) rfl, tb2 213 rfl rfl, ⟨rfl, by decide +kernel, by decide +kernel, by decide +kernel⟩⟩
theorem mX0_constant : mth yX0_constant cX0_constant 1 (some .int) RX0 0 := ⟨tb2 223 (by decide +kernel) rfl, tb2 224 (by decide +kernel) rfl, tb1 6 (by decide +kernel) rfl, tb2 225 rfl rfl, ⟨rfl, by decide +kernel, by decide +kernel, by decide +kernel⟩⟩
theorem mX0_singleCost : mth yX0_singleCost cX0_singleCost 3 (some .int) RX0 2 := ⟨tb2 227 (by decide +kernel) rfl, tb2 228 (by decide +kernel) rfl, tb1 6 (by decide +kernel) rfl, tb2 229 rfl rfl, ⟨rfl, by decide +kernel, by decide +kernel, by decide +kernel⟩⟩
theorem mX0_pairCost : mth yX0_pairCost cX0_pairCost 4 (some .int) RX0 3 := ⟨tb3 29 (by decide +kernel) rfl, tb3 30 (by decide +kernel) rfl, tb1 6 (by decide +kernel) rfl, tb3 31 rfl rfl, ⟨rfl, by decide +kernel, by decide +kernel, by decide +kernel⟩⟩
theorem mX0_singleAt : sth yX0_singleAt cX0_singleAt 2 (some .int) RX0 2 := ⟨tb2 84 (by decide +kernel) rfl, tb1 6 (by decide +kernel) rfl, tb2 85 rfl rfl, ⟨rfl, by decide +kernel, by decide +kernel, by decide +kernel⟩⟩
theorem mX0_pairAt : sth yX0_pairAt cX0_pairAt 3 (some .int) RX0 3 := ⟨tb2 114 (by decide +kernel) rfl, tb1 6 (by decide +kernel) rfl, tb2 115 rfl rfl, ⟨rfl, by decide +kernel, by decide +kernel, by decide +kernel⟩⟩
theorem mX0_pairFrom : sth yX0_pairFrom cX0_pairFrom 4 (some .int) RX0 4 := ⟨tb3 22 (by decide +kernel) rfl, tb1 6 (by decide +kernel) rfl, tb3 23 rfl rfl, ⟨rfl, by decide +kernel, by decide +kernel, by decide +kernel⟩⟩
theorem mX0_acrossFrom : sth yX0_acrossFrom cX0_acrossFrom 1 (some .int) RX0 1 := ⟨tb3 19 (by decide +kernel) rfl, tb1 6 (by decide +kernel) rfl, tb3 20 rfl rfl, ⟨rfl, by decide +kernel, by decide +kernel, by decide +kernel⟩⟩
theorem mX0_leastSingle : mth yX0_leastSingle cX0_leastSingle 4 (some .int) RX0 1 := ⟨tb2 235 (by decide +kernel) rfl, tb2 236 (by decide +kernel) rfl, tb1 6 (by decide +kernel) rfl, tb2 237 rfl rfl, ⟨rfl, by decide +kernel, by decide +kernel, by decide +kernel⟩⟩
theorem mX0_leastPairOf : mth yX0_leastPairOf cX0_leastPairOf 7 (some .int) RX0 3 := ⟨tb3 15 (by decide +kernel) rfl, tb3 16 (by decide +kernel) rfl, tb1 6 (by decide +kernel) rfl, tb3 17 rfl rfl, ⟨rfl, by decide +kernel, by decide +kernel, by decide +kernel⟩⟩
theorem mX0_leastOfTable : mth yX0_leastOfTable cX0_leastOfTable 4 (some .int) RX0 1 := ⟨tb3 11 (by decide +kernel) rfl, tb3 12 (by decide +kernel) rfl, tb1 6 (by decide +kernel) rfl, tb3 13 rfl rfl, ⟨rfl, by decide +kernel, by decide +kernel, by decide +kernel⟩⟩
theorem mX0_greatestOfTable : mth yX0_greatestOfTable cX0_greatestOfTable 5 (some .int) RX0 1 := ⟨tb3 25 (by decide +kernel) rfl, tb3 26 (by decide +kernel) rfl, tb1 6 (by decide +kernel) rfl, tb3 27 rfl rfl, ⟨rfl, by decide +kernel, by decide +kernel, by decide +kernel⟩⟩
theorem mX0_isShut : mth yX0_isShut cX0_isShut 3 (some .boolean) RX0 2 := ⟨tb2 219 (by decide +kernel) rfl, tb2 220 (by decide +kernel) rfl, tb1 6 (by decide +kernel) rfl, tb2 221 rfl rfl, ⟨rfl, by decide +kernel, by decide +kernel, by decide +kernel⟩⟩
theorem mX0_shutOf : mth yX0_shutOf cX0_shutOf 4 (some .int) RX0 1 := ⟨tb2 215 (by decide +kernel) rfl, tb2 216 (by decide +kernel) rfl, tb1 6 (by decide +kernel) rfl, tb2 217 rfl rfl, ⟨rfl, by decide +kernel, by decide +kernel, by decide +kernel⟩⟩
theorem mX0_shutInAll : mth yX0_shutInAll cX0_shutInAll 3 (some .int) RX0 0 := ⟨tb4 101 (by decide +kernel) rfl, tb4 102 (by decide +kernel) rfl, tb1 6 (by decide +kernel) rfl, tb4 103 rfl rfl, ⟨rfl, by decide +kernel, by decide +kernel, by decide +kernel⟩⟩
theorem mX0_sum : mth yX0_sum cX0_sum 4 (some .int) RX0 2 := ⟨tb2 231 (by decide +kernel) rfl, tb2 232 (by decide +kernel) rfl, tb1 6 (by decide +kernel) rfl, tb2 233 rfl rfl, ⟨rfl, by decide +kernel, by decide +kernel, by decide +kernel⟩⟩
theorem mX0_costBeside : mth yX0_costBeside cX0_costBeside 9 (some .int) RX0 5 := ⟨tb3 78 (by decide +kernel) rfl, tb3 79 (by decide +kernel) rfl, tb1 6 (by decide +kernel) rfl, tb3 80 rfl rfl, ⟨rfl, by decide +kernel, by decide +kernel, by decide +kernel⟩⟩
theorem mX0_totalOf : mth yX0_totalOf cX0_totalOf 4 (some .int) RX0 1 := ⟨tb3 74 (by decide +kernel) rfl, tb3 75 (by decide +kernel) rfl, tb1 6 (by decide +kernel) rfl, tb3 76 rfl rfl, ⟨rfl, by decide +kernel, by decide +kernel, by decide +kernel⟩⟩
theorem mX0_copyTo : mth yX0_copyTo cX0_copyTo 2 none RX0 1 := ⟨tb3 51 (by decide +kernel) rfl, tb3 52 (by decide +kernel) rfl, tb1 6 (by decide +kernel) rfl, tb3 53 rfl rfl, ⟨rfl, by decide +kernel, by decide +kernel, by decide +kernel⟩⟩
theorem mX0_copyFrom : mth yX0_copyFrom cX0_copyFrom 2 none RX0 1 := ⟨tb3 213 (by decide +kernel) rfl, tb3 214 (by decide +kernel) rfl, tb1 6 (by decide +kernel) rfl, tb3 215 rfl rfl, ⟨rfl, by decide +kernel, by decide +kernel, by decide +kernel⟩⟩
theorem mX0_areAs : mth yX0_areAs cX0_areAs 2 (some .boolean) RX0 1 := ⟨tb3 193 (by decide +kernel) rfl, tb3 194 (by decide +kernel) rfl, tb1 6 (by decide +kernel) rfl, tb3 195 rfl rfl, ⟨rfl, by decide +kernel, by decide +kernel, by decide +kernel⟩⟩
theorem mX0_setSingle : mth yX0_setSingle cX0_setSingle 4 none RX0 3 := ⟨tb2 81 (by decide +kernel) rfl, tb0 4 (by decide +kernel) rfl, tb1 6 (by decide +kernel) rfl, tb2 82 rfl rfl, ⟨rfl, by decide +kernel, by decide +kernel, by decide +kernel⟩⟩
theorem mX0_setPair : mth yX0_setPair cX0_setPair 5 none RX0 4 := ⟨tb2 111 (by decide +kernel) rfl, tb0 6 (by decide +kernel) rfl, tb1 6 (by decide +kernel) rfl, tb2 112 rfl rfl, ⟨rfl, by decide +kernel, by decide +kernel, by decide +kernel⟩⟩
theorem mX0_lessen : mth yX0_lessen cX0_lessen 4 none RX0 2 := ⟨tb3 96 (by decide +kernel) rfl, tb0 8 (by decide +kernel) rfl, tb1 6 (by decide +kernel) rfl, tb3 97 rfl rfl, ⟨rfl, by decide +kernel, by decide +kernel, by decide +kernel⟩⟩
theorem mX0_enlarge : mth yX0_enlarge cX0_enlarge 3 none RX0 2 := ⟨tb3 61 (by decide +kernel) rfl, tb0 7 (by decide +kernel) rfl, tb1 6 (by decide +kernel) rfl, tb3 62 rfl rfl, ⟨rfl, by decide +kernel, by decide +kernel, by decide +kernel⟩⟩
theorem mX0_growSingle : mth yX0_growSingle cX0_growSingle 4 none RX0 3 := ⟨tb3 56 (by decide +kernel) rfl, tb3 57 (by decide +kernel) rfl, tb1 6 (by decide +kernel) rfl, tb3 58 rfl rfl, ⟨rfl, by decide +kernel, by decide +kernel, by decide +kernel⟩⟩
theorem mX0_moveToValue : mth yX0_moveToValue cX0_moveToValue 7 none RX0 4 := ⟨tb3 91 (by decide +kernel) rfl, tb3 92 (by decide +kernel) rfl, tb1 6 (by decide +kernel) rfl, tb3 93 rfl rfl, ⟨rfl, by decide +kernel, by decide +kernel, by decide +kernel⟩⟩
theorem mX0_moveToTable : mth yX0_moveToTable cX0_moveToTable 7 none RX0 4 := ⟨tb3 103 (by decide +kernel) rfl, tb3 104 (by decide +kernel) rfl, tb1 6 (by decide +kernel) rfl, tb3 105 rfl rfl, ⟨rfl, by decide +kernel, by decide +kernel, by decide +kernel⟩⟩
theorem mX0_moveToConstant : mth yX0_moveToConstant cX0_moveToConstant 4 none RX0 2 := ⟨tb3 111 (by decide +kernel) rfl, tb3 112 (by decide +kernel) rfl, tb1 6 (by decide +kernel) rfl, tb3 113 rfl rfl, ⟨rfl, by decide +kernel, by decide +kernel, by decide +kernel⟩⟩
theorem mX0_topShutSingles : mth yX0_topShutSingles cX0_topShutSingles 3 none RX0 1 := ⟨tb3 179 (by decide +kernel) rfl, tb3 180 (by decide +kernel) rfl, tb1 6 (by decide +kernel) rfl, tb3 181 rfl rfl, ⟨rfl, by decide +kernel, by decide +kernel, by decide +kernel⟩⟩
theorem mX0_topPairsOfTopSingles : mth yX0_topPairsOfTopSingles cX0_topPairsOfTopSingles 6 none RX0 1 := ⟨tb3 134 (by decide +kernel) rfl, tb3 135 (by decide +kernel) rfl, tb1 6 (by decide +kernel) rfl, tb3 136 rfl rfl, ⟨rfl, by decide +kernel, by decide +kernel, by decide +kernel⟩⟩
theorem mX1_size : mth yX1_size cX1_size 1 (some .int) RX1 0 := ⟨tb3 217 (by decide +kernel) rfl, tb3 218 (by decide +kernel) rfl, tb1 8 (by decide +kernel) rfl, tb3 219 rfl rfl, ⟨rfl, by decide +kernel, by decide +kernel, by decide +kernel⟩⟩
theorem mX1_clear : mth yX1_clear cX1_clear 1 none RX1 0 := ⟨tb2 201 (by decide +kernel) rfl, tb2 202 (by decide +kernel) rfl, tb1 8 (by decide +kernel) rfl, tb2 203 rfl rfl, ⟨rfl, by decide +kernel, by decide +kernel, by decide +kernel⟩⟩
theorem mX1_keep : mth yX1_keep cX1_keep 2 none RX1 1 := ⟨tb3 47 (by decide +kernel) rfl, tb3 48 (by decide +kernel) rfl, tb1 8 (by decide +kernel) rfl, tb3 49 rfl rfl, ⟨rfl, by decide +kernel, by decide +kernel, by decide +kernel⟩⟩
theorem mX1_giveBack : mth yX1_giveBack cX1_giveBack 3 (some .boolean) RX1 1 := ⟨tb3 209 (by decide +kernel) rfl, tb3 210 (by decide +kernel) rfl, tb1 8 (by decide +kernel) rfl, tb3 211 rfl rfl, ⟨rfl, by decide +kernel, by decide +kernel, by decide +kernel⟩⟩
theorem mX2_readAll : mth yX2_readAll cX2_readAll 5 (some .int) RX2 2 := ⟨tb2 14 (by decide +kernel) rfl, tb2 15 (by decide +kernel) rfl, tb1 5 (by decide +kernel) rfl, tb2 16 rfl rfl, ⟨rfl, by decide +kernel, by decide +kernel, by decide +kernel⟩⟩
theorem mX2_readItem : mth yX2_readItem cX2_readItem 5 (some .boolean) RX2 2 := ⟨tb2 31 (by decide +kernel) rfl, tb0 0 (by decide +kernel) rfl, tb1 5 (by decide +kernel) rfl, tb2 32 rfl rfl, ⟨rfl, by decide +kernel, by decide +kernel, by decide +kernel⟩⟩
theorem mX2_numbersOf : sth yX2_numbersOf cX2_numbersOf 1 (some .int) RX2 1 := ⟨tb2 42 (by decide +kernel) rfl, tb1 5 (by decide +kernel) rfl, tb2 43 rfl rfl, ⟨rfl, by decide +kernel, by decide +kernel, by decide +kernel⟩⟩
theorem mX2_readNumbers : mth yX2_readNumbers cX2_readNumbers 5 (some .boolean) RX2 2 := ⟨tb2 46 (by decide +kernel) rfl, tb0 1 (by decide +kernel) rfl, tb1 5 (by decide +kernel) rfl, tb2 47 rfl rfl, ⟨rfl, by decide +kernel, by decide +kernel, by decide +kernel⟩⟩
theorem mX2_readNumber : mth yX2_readNumber cX2_readNumber 4 (some .boolean) RX2 2 := ⟨tb2 50 (by decide +kernel) rfl, tb0 2 (by decide +kernel) rfl, tb1 5 (by decide +kernel) rfl, tb2 51 rfl rfl, ⟨rfl, by decide +kernel, by decide +kernel, by decide +kernel⟩⟩
theorem mX2_isFigure : sth yX2_isFigure cX2_isFigure 1 (some .boolean) RX2 1 := ⟨tb2 53 (by decide +kernel) rfl, tb1 5 (by decide +kernel) rfl, tb2 54 rfl rfl, ⟨rfl, by decide +kernel, by decide +kernel, by decide +kernel⟩⟩
theorem mX2_tell : mth yX2_tell cX2_tell 6 (some .boolean) RX2 2 := ⟨tb2 58 (by decide +kernel) rfl, tb0 3 (by decide +kernel) rfl, tb1 5 (by decide +kernel) rfl, tb2 59 rfl rfl, ⟨rfl, by decide +kernel, by decide +kernel, by decide +kernel⟩⟩
theorem mX3_get : mth yX3_get cX3_get 2 (some .int) RX3 1 := ⟨tb2 38 (by decide +kernel) rfl, tb2 39 (by decide +kernel) rfl, tb1 3 (by decide +kernel) rfl, tb2 40 rfl rfl, ⟨rfl, by decide +kernel, by decide +kernel, by decide +kernel⟩⟩
theorem mX3_set : mth yX3_set cX3_set 3 none RX3 2 := ⟨tb2 10 (by decide +kernel) rfl, tb2 11 (by decide +kernel) rfl, tb1 3 (by decide +kernel) rfl, tb2 12 rfl rfl, ⟨rfl, by decide +kernel, by decide +kernel, by decide +kernel⟩⟩
theorem mX3_clear : mth yX3_clear cX3_clear 2 none RX3 0 := ⟨tb2 22 (by decide +kernel) rfl, tb2 23 (by decide +kernel) rfl, tb1 3 (by decide +kernel) rfl, tb2 24 rfl rfl, ⟨rfl, by decide +kernel, by decide +kernel, by decide +kernel⟩⟩
theorem mX3_takeFrom : mth yX3_takeFrom cX3_takeFrom 3 none RX3 1 := ⟨tb2 195 (by decide +kernel) rfl, tb2 196 (by decide +kernel) rfl, tb1 3 (by decide +kernel) rfl, tb2 197 rfl rfl, ⟨rfl, by decide +kernel, by decide +kernel, by decide +kernel⟩⟩
theorem mX3_isLike : mth yX3_isLike cX3_isLike 3 (some .boolean) RX3 1 := ⟨tb3 197 (by decide +kernel) rfl, tb3 198 (by decide +kernel) rfl, tb1 3 (by decide +kernel) rfl, tb3 199 rfl rfl, ⟨rfl, by decide +kernel, by decide +kernel, by decide +kernel⟩⟩
theorem mX4_goThrough : mth yX4_goThrough cX4_goThrough 5 none RX4 4 := ⟨tb3 225 (by decide +kernel) rfl, tb3 226 (by decide +kernel) rfl, tb1 9 (by decide +kernel) rfl, tb3 227 rfl rfl, ⟨rfl, by decide +kernel, by decide +kernel, by decide +kernel⟩⟩
theorem mX4_goOn : mth yX4_goOn cX4_goOn 5 none RX4 3 := ⟨tb3 232 (by decide +kernel) rfl, tb0 12 (by decide +kernel) rfl, tb1 9 (by decide +kernel) rfl, tb3 233 rfl rfl, ⟨rfl, by decide +kernel, by decide +kernel, by decide +kernel⟩⟩
theorem mX4_take : mth yX4_take cX4_take 5 none RX4 4 := ⟨tb4 9 (by decide +kernel) rfl, tb0 15 (by decide +kernel) rfl, tb1 9 (by decide +kernel) rfl, tb4 10 rfl rfl, ⟨rfl, by decide +kernel, by decide +kernel, by decide +kernel⟩⟩
theorem mX4_note : mth yX4_note cX4_note 4 none RX4 2 := ⟨tb3 237 (by decide +kernel) rfl, tb0 13 (by decide +kernel) rfl, tb1 9 (by decide +kernel) rfl, tb3 238 rfl rfl, ⟨rfl, by decide +kernel, by decide +kernel, by decide +kernel⟩⟩
theorem mX4_chosenBits : mth yX4_chosenBits cX4_chosenBits 4 (some .int) RX4 1 := ⟨tb4 1 (by decide +kernel) rfl, tb0 14 (by decide +kernel) rfl, tb1 9 (by decide +kernel) rfl, tb4 2 rfl rfl, ⟨rfl, by decide +kernel, by decide +kernel, by decide +kernel⟩⟩
theorem mX4_hasFound : mth yX4_hasFound cX4_hasFound 1 (some .boolean) RX4 0 := ⟨tb4 15 (by decide +kernel) rfl, tb4 16 (by decide +kernel) rfl, tb1 9 (by decide +kernel) rfl, tb4 17 rfl rfl, ⟨rfl, by decide +kernel, by decide +kernel, by decide +kernel⟩⟩
theorem mX4_hasSecond : mth yX4_hasSecond cX4_hasSecond 1 (some .boolean) RX4 0 := ⟨tb4 39 (by decide +kernel) rfl, tb4 40 (by decide +kernel) rfl, tb1 9 (by decide +kernel) rfl, tb4 41 rfl rfl, ⟨rfl, by decide +kernel, by decide +kernel, by decide +kernel⟩⟩
theorem mX4_leastTotal : mth yX4_leastTotal cX4_leastTotal 1 (some .int) RX4 0 := ⟨tb4 19 (by decide +kernel) rfl, tb4 20 (by decide +kernel) rfl, tb1 9 (by decide +kernel) rfl, tb4 21 rfl rfl, ⟨rfl, by decide +kernel, by decide +kernel, by decide +kernel⟩⟩
theorem mX4_waysOfLeast : mth yX4_waysOfLeast cX4_waysOfLeast 1 (some .int) RX4 0 := ⟨tb4 23 (by decide +kernel) rfl, tb4 24 (by decide +kernel) rfl, tb1 9 (by decide +kernel) rfl, tb4 25 rfl rfl, ⟨rfl, by decide +kernel, by decide +kernel, by decide +kernel⟩⟩
theorem mX4_secondTotal : mth yX4_secondTotal cX4_secondTotal 1 (some .int) RX4 0 := ⟨tb4 43 (by decide +kernel) rfl, tb4 44 (by decide +kernel) rfl, tb1 9 (by decide +kernel) rfl, tb4 45 rfl rfl, ⟨rfl, by decide +kernel, by decide +kernel, by decide +kernel⟩⟩
theorem mX4_choicesBelowTop : mth yX4_choicesBelowTop cX4_choicesBelowTop 1 (some .int) RX4 0 := ⟨tb4 35 (by decide +kernel) rfl, tb4 36 (by decide +kernel) rfl, tb1 9 (by decide +kernel) rfl, tb4 37 rfl rfl, ⟨rfl, by decide +kernel, by decide +kernel, by decide +kernel⟩⟩
theorem mX4_commonValues : mth yX4_commonValues cX4_commonValues 1 (some .int) RX4 0 := ⟨tb4 51 (by decide +kernel) rfl, tb4 52 (by decide +kernel) rfl, tb1 9 (by decide +kernel) rfl, tb4 53 rfl rfl, ⟨rfl, by decide +kernel, by decide +kernel, by decide +kernel⟩⟩
theorem mX4_firstValueOf : mth yX4_firstValueOf cX4_firstValueOf 2 (some .int) RX4 1 := ⟨tb4 27 (by decide +kernel) rfl, tb4 28 (by decide +kernel) rfl, tb1 9 (by decide +kernel) rfl, tb4 29 rfl rfl, ⟨rfl, by decide +kernel, by decide +kernel, by decide +kernel⟩⟩
theorem mX5_doTillSettled : mth yX5_doTillSettled cX5_doTillSettled 4 (some .int) RX5 2 := ⟨tb3 187 (by decide +kernel) rfl, tb3 188 (by decide +kernel) rfl, tb1 7 (by decide +kernel) rfl, tb3 189 rfl rfl, ⟨rfl, by decide +kernel, by decide +kernel, by decide +kernel⟩⟩
theorem mX5_doOne : mth yX5_doOne cX5_doOne 3 none RX5 2 := ⟨tb3 123 (by decide +kernel) rfl, tb3 124 (by decide +kernel) rfl, tb1 7 (by decide +kernel) rfl, tb3 125 rfl rfl, ⟨rfl, by decide +kernel, by decide +kernel, by decide +kernel⟩⟩
theorem mX5_doNodes : sth yX5_doNodes cX5_doNodes 3 none RX5 1 := ⟨tb3 174 (by decide +kernel) rfl, tb1 7 (by decide +kernel) rfl, tb3 175 rfl rfl, ⟨rfl, by decide +kernel, by decide +kernel, by decide +kernel⟩⟩
theorem mX5_doArcs : sth yX5_doArcs cX5_doArcs 2 none RX5 1 := ⟨tb3 127 (by decide +kernel) rfl, tb1 7 (by decide +kernel) rfl, tb3 128 rfl rfl, ⟨rfl, by decide +kernel, by decide +kernel, by decide +kernel⟩⟩
theorem mX5_projectLeasts : sth yX5_projectLeasts cX5_projectLeasts 5 none RX5 3 := ⟨tb3 138 (by decide +kernel) rfl, tb1 7 (by decide +kernel) rfl, tb3 139 rfl rfl, ⟨rfl, by decide +kernel, by decide +kernel, by decide +kernel⟩⟩
theorem mX5_doDirected : mth yX5_doDirected cX5_doDirected 4 none RX5 1 := ⟨tb3 145 (by decide +kernel) rfl, tb0 9 (by decide +kernel) rfl, tb1 7 (by decide +kernel) rfl, tb3 146 rfl rfl, ⟨rfl, by decide +kernel, by decide +kernel, by decide +kernel⟩⟩
theorem mX5_direct : mth yX5_direct cX5_direct 6 none RX5 2 := ⟨tb3 151 (by decide +kernel) rfl, tb0 10 (by decide +kernel) rfl, tb1 7 (by decide +kernel) rfl, tb3 152 rfl rfl, ⟨rfl, by decide +kernel, by decide +kernel, by decide +kernel⟩⟩
theorem mX5_reachOf : sth yX5_reachOf cX5_reachOf 6 (some .int) RX5 3 := ⟨tb3 154 (by decide +kernel) rfl, tb1 7 (by decide +kernel) rfl, tb3 155 rfl rfl, ⟨rfl, by decide +kernel, by decide +kernel, by decide +kernel⟩⟩
theorem mX5_needOf : mth yX5_needOf cX5_needOf 6 (some .int) RX5 3 := ⟨tb3 168 (by decide +kernel) rfl, tb0 11 (by decide +kernel) rfl, tb1 7 (by decide +kernel) rfl, tb3 169 rfl rfl, ⟨rfl, by decide +kernel, by decide +kernel, by decide +kernel⟩⟩
theorem mX6_length : mth yX6_length cX6_length 1 (some .int) RX6 0 := ⟨tb2 26 (by decide +kernel) rfl, tb2 27 (by decide +kernel) rfl, tb1 2 (by decide +kernel) rfl, tb2 28 rfl rfl, ⟨rfl, by decide +kernel, by decide +kernel, by decide +kernel⟩⟩
theorem mX6_clear : mth yX6_clear cX6_clear 1 none RX6 0 := ⟨tb2 137 (by decide +kernel) rfl, tb2 138 (by decide +kernel) rfl, tb1 2 (by decide +kernel) rfl, tb2 139 rfl rfl, ⟨rfl, by decide +kernel, by decide +kernel, by decide +kernel⟩⟩
theorem mX6_add : mth yX6_add cX6_add 2 (some .boolean) RX6 1 := ⟨tb2 6 (by decide +kernel) rfl, tb2 7 (by decide +kernel) rfl, tb1 2 (by decide +kernel) rfl, tb2 8 rfl rfl, ⟨rfl, by decide +kernel, by decide +kernel, by decide +kernel⟩⟩
theorem mX6_letterAt : mth yX6_letterAt cX6_letterAt 2 (some .int) RX6 1 := ⟨tb2 34 (by decide +kernel) rfl, tb2 35 (by decide +kernel) rfl, tb1 2 (by decide +kernel) rfl, tb2 36 rfl rfl, ⟨rfl, by decide +kernel, by decide +kernel, by decide +kernel⟩⟩
theorem mX7_countTries : mth yX7_countTries cX7_countTries 2 (some .int) RX7 1 := ⟨tb4 67 (by decide +kernel) rfl, tb4 68 (by decide +kernel) rfl, tb1 10 (by decide +kernel) rfl, tb4 69 rfl rfl, ⟨rfl, by decide +kernel, by decide +kernel, by decide +kernel⟩⟩
theorem mX7_goOn : mth yX7_goOn cX7_goOn 5 none RX7 3 := ⟨tb4 74 (by decide +kernel) rfl, tb0 16 (by decide +kernel) rfl, tb1 10 (by decide +kernel) rfl, tb4 75 rfl rfl, ⟨rfl, by decide +kernel, by decide +kernel, by decide +kernel⟩⟩
theorem mX7_tryValue : mth yX7_tryValue cX7_tryValue 7 none RX7 4 := ⟨tb4 80 (by decide +kernel) rfl, tb0 17 (by decide +kernel) rfl, tb1 10 (by decide +kernel) rfl, tb4 81 rfl rfl, ⟨rfl, by decide +kernel, by decide +kernel, by decide +kernel⟩⟩
theorem mX7_lowOf : mth yX7_lowOf cX7_lowOf 6 (some .int) RX7 3 := ⟨tb4 87 (by decide +kernel) rfl, tb0 18 (by decide +kernel) rfl, tb1 10 (by decide +kernel) rfl, tb4 88 rfl rfl, ⟨rfl, by decide +kernel, by decide +kernel, by decide +kernel⟩⟩
theorem mX7_leastBeside : mth yX7_leastBeside cX7_leastBeside 6 (some .int) RX7 3 := ⟨tb4 91 (by decide +kernel) rfl, tb0 19 (by decide +kernel) rfl, tb1 10 (by decide +kernel) rfl, tb4 92 rfl rfl, ⟨rfl, by decide +kernel, by decide +kernel, by decide +kernel⟩⟩
theorem mX8_write : mth yX8_write cX8_write 2 (some .int) RX8 1 := ⟨tb2 170 (by decide +kernel) rfl, tb2 171 (by decide +kernel) rfl, tb1 1 (by decide +kernel) rfl, tb2 172 rfl rfl, ⟨rfl, by decide +kernel, by decide +kernel, by decide +kernel⟩⟩
theorem mX8_wipe : mth yX8_wipe cX8_wipe 2 (some .int) RX8 0 := ⟨tb2 175 (by decide +kernel) rfl, tb2 176 (by decide +kernel) rfl, tb1 1 (by decide +kernel) rfl, tb2 177 rfl rfl, ⟨rfl, by decide +kernel, by decide +kernel, by decide +kernel⟩⟩
theorem mX8_fault : mth yX8_fault cX8_fault 1 (some .int) RX8 0 := ⟨tb2 179 (by decide +kernel) rfl, tb2 180 (by decide +kernel) rfl, tb1 1 (by decide +kernel) rfl, tb2 181 rfl rfl, ⟨rfl, by decide +kernel, by decide +kernel, by decide +kernel⟩⟩
theorem mX8_lay : mth yX8_lay cX8_lay 1 (some .int) RX8 0 := ⟨tb2 183 (by decide +kernel) rfl, tb2 184 (by decide +kernel) rfl, tb1 1 (by decide +kernel) rfl, tb2 185 rfl rfl, ⟨rfl, by decide +kernel, by decide +kernel, by decide +kernel⟩⟩
theorem mX8_name : mth yX8_name cX8_name 3 (some .int) RX8 2 := ⟨tb2 205 (by decide +kernel) rfl, tb2 206 (by decide +kernel) rfl, tb1 1 (by decide +kernel) rfl, tb2 207 rfl rfl, ⟨rfl, by decide +kernel, by decide +kernel, by decide +kernel⟩⟩
theorem mX8_single : mth yX8_single cX8_single 3 (some .int) RX8 2 := ⟨tb2 239 (by decide +kernel) rfl, tb3 0 (by decide +kernel) rfl, tb1 1 (by decide +kernel) rfl, tb3 1 rfl rfl, ⟨rfl, by decide +kernel, by decide +kernel, by decide +kernel⟩⟩
theorem mX8_table : mth yX8_table cX8_table 3 (some .int) RX8 2 := ⟨tb3 5 (by decide +kernel) rfl, tb3 6 (by decide +kernel) rfl, tb1 1 (by decide +kernel) rfl, tb3 7 rfl rfl, ⟨rfl, by decide +kernel, by decide +kernel, by decide +kernel⟩⟩
theorem mX8_pair : mth yX8_pair cX8_pair 4 (some .int) RX8 3 := ⟨tb3 34 (by decide +kernel) rfl, tb3 35 (by decide +kernel) rfl, tb1 1 (by decide +kernel) rfl, tb3 36 rfl rfl, ⟨rfl, by decide +kernel, by decide +kernel, by decide +kernel⟩⟩
theorem mX8_grow : mth yX8_grow cX8_grow 4 (some .int) RX8 3 := ⟨tb3 40 (by decide +kernel) rfl, tb3 41 (by decide +kernel) rfl, tb1 1 (by decide +kernel) rfl, tb3 42 rfl rfl, ⟨rfl, by decide +kernel, by decide +kernel, by decide +kernel⟩⟩
theorem mX8_choose : mth yX8_choose cX8_choose 4 (some .int) RX8 2 := ⟨tb3 64 (by decide +kernel) rfl, tb3 65 (by decide +kernel) rfl, tb1 1 (by decide +kernel) rfl, tb3 66 rfl rfl, ⟨rfl, by decide +kernel, by decide +kernel, by decide +kernel⟩⟩
theorem mX8_total : mth yX8_total cX8_total 1 (some .int) RX8 0 := ⟨tb3 70 (by decide +kernel) rfl, tb3 71 (by decide +kernel) rfl, tb1 1 (by decide +kernel) rfl, tb3 72 rfl rfl, ⟨rfl, by decide +kernel, by decide +kernel, by decide +kernel⟩⟩
theorem mX8_project : mth yX8_project cX8_project 5 (some .int) RX8 4 := ⟨tb3 82 (by decide +kernel) rfl, tb3 83 (by decide +kernel) rfl, tb1 1 (by decide +kernel) rfl, tb3 84 rfl rfl, ⟨rfl, by decide +kernel, by decide +kernel, by decide +kernel⟩⟩
theorem mX8_extend : mth yX8_extend cX8_extend 6 (some .int) RX8 4 := ⟨tb3 99 (by decide +kernel) rfl, tb3 100 (by decide +kernel) rfl, tb1 1 (by decide +kernel) rfl, tb3 101 rfl rfl, ⟨rfl, by decide +kernel, by decide +kernel, by decide +kernel⟩⟩
theorem mX8_raise : mth yX8_raise cX8_raise 3 (some .int) RX8 2 := ⟨tb3 107 (by decide +kernel) rfl, tb3 108 (by decide +kernel) rfl, tb1 1 (by decide +kernel) rfl, tb3 109 rfl rfl, ⟨rfl, by decide +kernel, by decide +kernel, by decide +kernel⟩⟩
theorem mX8_sweep : mth yX8_sweep cX8_sweep 4 (some .int) RX8 2 := ⟨tb3 116 (by decide +kernel) rfl, tb3 117 (by decide +kernel) rfl, tb1 1 (by decide +kernel) rfl, tb3 118 rfl rfl, ⟨rfl, by decide +kernel, by decide +kernel, by decide +kernel⟩⟩
theorem mX8_settle : mth yX8_settle cX8_settle 2 (some .int) RX8 1 := ⟨tb3 183 (by decide +kernel) rfl, tb3 184 (by decide +kernel) rfl, tb1 1 (by decide +kernel) rfl, tb3 185 rfl rfl, ⟨rfl, by decide +kernel, by decide +kernel, by decide +kernel⟩⟩
theorem mX8_bound : mth yX8_bound cX8_bound 2 (some .int) RX8 1 := ⟨tb3 201 (by decide +kernel) rfl, tb3 202 (by decide +kernel) rfl, tb1 1 (by decide +kernel) rfl, tb3 203 rfl rfl, ⟨rfl, by decide +kernel, by decide +kernel, by decide +kernel⟩⟩
theorem mX8_undo : mth yX8_undo cX8_undo 1 (some .int) RX8 0 := ⟨tb3 205 (by decide +kernel) rfl, tb3 206 (by decide +kernel) rfl, tb1 1 (by decide +kernel) rfl, tb3 207 rfl rfl, ⟨rfl, by decide +kernel, by decide +kernel, by decide +kernel⟩⟩
theorem mX8_best : mth yX8_best cX8_best 2 (some .int) RX8 1 := ⟨tb3 221 (by decide +kernel) rfl, tb3 222 (by decide +kernel) rfl, tb1 1 (by decide +kernel) rfl, tb3 223 rfl rfl, ⟨rfl, by decide +kernel, by decide +kernel, by decide +kernel⟩⟩
theorem mX8_next : mth yX8_next cX8_next 2 (some .int) RX8 1 := ⟨tb4 31 (by decide +kernel) rfl, tb4 32 (by decide +kernel) rfl, tb1 1 (by decide +kernel) rfl, tb4 33 rfl rfl, ⟨rfl, by decide +kernel, by decide +kernel, by decide +kernel⟩⟩
theorem mX8_backbone : mth yX8_backbone cX8_backbone 1 (some .int) RX8 0 := ⟨tb4 47 (by decide +kernel) rfl, tb4 48 (by decide +kernel) rfl, tb1 1 (by decide +kernel) rfl, tb4 49 rfl rfl, ⟨rfl, by decide +kernel, by decide +kernel, by decide +kernel⟩⟩
theorem mX8_with : mth yX8_with cX8_with 3 (some .int) RX8 2 := ⟨tb4 55 (by decide +kernel) rfl, tb4 56 (by decide +kernel) rfl, tb1 1 (by decide +kernel) rfl, tb4 57 rfl rfl, ⟨rfl, by decide +kernel, by decide +kernel, by decide +kernel⟩⟩
theorem mX8_without : mth yX8_without cX8_without 2 (some .int) RX8 1 := ⟨tb4 59 (by decide +kernel) rfl, tb4 60 (by decide +kernel) rfl, tb1 1 (by decide +kernel) rfl, tb4 61 rfl rfl, ⟨rfl, by decide +kernel, by decide +kernel, by decide +kernel⟩⟩
theorem mX8_tries : mth yX8_tries cX8_tries 1 (some .int) RX8 0 := ⟨tb4 63 (by decide +kernel) rfl, tb4 64 (by decide +kernel) rfl, tb1 1 (by decide +kernel) rfl, tb4 65 rfl rfl, ⟨rfl, by decide +kernel, by decide +kernel, by decide +kernel⟩⟩
theorem mX8_count : mth yX8_count cX8_count 2 (some .int) RX8 1 := ⟨tb4 95 (by decide +kernel) rfl, tb4 96 (by decide +kernel) rfl, tb1 1 (by decide +kernel) rfl, tb4 97 rfl rfl, ⟨rfl, by decide +kernel, by decide +kernel, by decide +kernel⟩⟩
theorem mX8_isStep : sth yX8_isStep cX8_isStep 1 (some .boolean) RX8 1 := ⟨tb3 44 (by decide +kernel) rfl, tb1 1 (by decide +kernel) rfl, tb3 45 rfl rfl, ⟨rfl, by decide +kernel, by decide +kernel, by decide +kernel⟩⟩
theorem mX8_isSweep : sth yX8_isSweep cX8_isSweep 1 (some .boolean) RX8 1 := ⟨tb3 120 (by decide +kernel) rfl, tb1 1 (by decide +kernel) rfl, tb3 121 rfl rfl, ⟨rfl, by decide +kernel, by decide +kernel, by decide +kernel⟩⟩
theorem mX9_begins : mth yX9_begins cX9_begins 6 none RX9 4 := ⟨tb4 119 (by decide +kernel) rfl, tb0 20 (by decide +kernel) rfl, tb1 15 (by decide +kernel) rfl, tb4 120 rfl rfl, ⟨rfl, by decide +kernel, by decide +kernel, by decide +kernel⟩⟩
theorem mX9_isIn : sth yX9_isIn cX9_isIn 3 (some .boolean) RX9 3 := ⟨tb5 4 (by decide +kernel) rfl, tb1 15 (by decide +kernel) rfl, tb5 5 rfl rfl, ⟨rfl, by decide +kernel, by decide +kernel, by decide +kernel⟩⟩
theorem mX9_letterAt : mth yX9_letterAt cX9_letterAt 2 (some .int) RX9 1 := ⟨tb5 1 (by decide +kernel) rfl, tb0 24 (by decide +kernel) rfl, tb1 15 (by decide +kernel) rfl, tb5 2 rfl rfl, ⟨rfl, by decide +kernel, by decide +kernel, by decide +kernel⟩⟩
theorem mX9_number : mth yX9_number cX9_number 5 (some .boolean) RX9 3 := ⟨tb4 237 (by decide +kernel) rfl, tb0 23 (by decide +kernel) rfl, tb1 15 (by decide +kernel) rfl, tb4 238 rfl rfl, ⟨rfl, by decide +kernel, by decide +kernel, by decide +kernel⟩⟩
theorem mX9_more : mth yX9_more cX9_more 3 (some .boolean) RX9 2 := ⟨tb5 16 (by decide +kernel) rfl, tb0 27 (by decide +kernel) rfl, tb1 15 (by decide +kernel) rfl, tb5 17 rfl rfl, ⟨rfl, by decide +kernel, by decide +kernel, by decide +kernel⟩⟩
theorem mX9_readsName : mth yX9_readsName cX9_readsName 2 (some .boolean) RX9 1 := ⟨tb5 8 (by decide +kernel) rfl, tb0 25 (by decide +kernel) rfl, tb1 15 (by decide +kernel) rfl, tb5 9 rfl rfl, ⟨rfl, by decide +kernel, by decide +kernel, by decide +kernel⟩⟩
theorem mX9_readsSingle : mth yX9_readsSingle cX9_readsSingle 5 (some .boolean) RX9 1 := ⟨tb5 12 (by decide +kernel) rfl, tb0 26 (by decide +kernel) rfl, tb1 15 (by decide +kernel) rfl, tb5 13 rfl rfl, ⟨rfl, by decide +kernel, by decide +kernel, by decide +kernel⟩⟩
theorem mX9_readsTable : mth yX9_readsTable cX9_readsTable 6 (some .boolean) RX9 1 := ⟨tb5 20 (by decide +kernel) rfl, tb0 28 (by decide +kernel) rfl, tb1 15 (by decide +kernel) rfl, tb5 21 rfl rfl, ⟨rfl, by decide +kernel, by decide +kernel, by decide +kernel⟩⟩
theorem mX9_readsPair : mth yX9_readsPair cX9_readsPair 6 (some .boolean) RX9 1 := ⟨tb5 24 (by decide +kernel) rfl, tb0 29 (by decide +kernel) rfl, tb1 15 (by decide +kernel) rfl, tb5 25 rfl rfl, ⟨rfl, by decide +kernel, by decide +kernel, by decide +kernel⟩⟩
theorem mX9_readsItem : mth yX9_readsItem cX9_readsItem 4 (some .boolean) RX9 2 := ⟨tb4 233 (by decide +kernel) rfl, tb0 22 (by decide +kernel) rfl, tb1 15 (by decide +kernel) rfl, tb4 234 rfl rfl, ⟨rfl, by decide +kernel, by decide +kernel, by decide +kernel⟩⟩
theorem mX9_reads : mth yX9_reads cX9_reads 2 (some .int) RX9 0 := ⟨tb4 229 (by decide +kernel) rfl, tb0 21 (by decide +kernel) rfl, tb1 15 (by decide +kernel) rfl, tb4 230 rfl rfl, ⟨rfl, by decide +kernel, by decide +kernel, by decide +kernel⟩⟩
theorem mX9_write : mth yX9_write cX9_write 2 (some .int) RX9 1 := ⟨tb4 216 (by decide +kernel) rfl, tb4 217 (by decide +kernel) rfl, tb1 15 (by decide +kernel) rfl, tb4 218 rfl rfl, ⟨rfl, by decide +kernel, by decide +kernel, by decide +kernel⟩⟩
theorem mX9_wipe : mth yX9_wipe cX9_wipe 2 (some .int) RX9 0 := ⟨tb4 220 (by decide +kernel) rfl, tb4 221 (by decide +kernel) rfl, tb1 15 (by decide +kernel) rfl, tb4 222 rfl rfl, ⟨rfl, by decide +kernel, by decide +kernel, by decide +kernel⟩⟩
theorem mX9_fault : mth yX9_fault cX9_fault 1 (some .int) RX9 0 := ⟨tb4 224 (by decide +kernel) rfl, tb4 225 (by decide +kernel) rfl, tb1 15 (by decide +kernel) rfl, tb4 226 rfl rfl, ⟨rfl, by decide +kernel, by decide +kernel, by decide +kernel⟩⟩
theorem mX9_lay : mth yX9_lay cX9_lay 2 (some .int) RX9 0 := ⟨tb5 27 (by decide +kernel) rfl, tb5 28 (by decide +kernel) rfl, tb1 15 (by decide +kernel) rfl, tb5 29 rfl rfl, ⟨rfl, by decide +kernel, by decide +kernel, by decide +kernel⟩⟩
theorem mX9_sum : mth yX9_sum cX9_sum 3 (some .int) RX9 2 := ⟨tb5 32 (by decide +kernel) rfl, tb0 30 (by decide +kernel) rfl, tb1 15 (by decide +kernel) rfl, tb5 33 rfl rfl, ⟨rfl, by decide +kernel, by decide +kernel, by decide +kernel⟩⟩
theorem mX9_less : mth yX9_less cX9_less 3 (some .int) RX9 2 := ⟨tb5 111 (by decide +kernel) rfl, tb0 41 (by decide +kernel) rfl, tb1 15 (by decide +kernel) rfl, tb5 112 rfl rfl, ⟨rfl, by decide +kernel, by decide +kernel, by decide +kernel⟩⟩
theorem mX9_isName : mth yX9_isName cX9_isName 2 (some .boolean) RX9 1 := ⟨tb5 40 (by decide +kernel) rfl, tb0 31 (by decide +kernel) rfl, tb1 15 (by decide +kernel) rfl, tb5 41 rfl rfl, ⟨rfl, by decide +kernel, by decide +kernel, by decide +kernel⟩⟩
theorem mX9_isValue : mth yX9_isValue cX9_isValue 3 (some .boolean) RX9 2 := ⟨tb5 56 (by decide +kernel) rfl, tb0 34 (by decide +kernel) rfl, tb1 15 (by decide +kernel) rfl, tb5 57 rfl rfl, ⟨rfl, by decide +kernel, by decide +kernel, by decide +kernel⟩⟩
theorem mX9_isTable : mth yX9_isTable cX9_isTable 2 (some .boolean) RX9 1 := ⟨tb5 64 (by decide +kernel) rfl, tb0 35 (by decide +kernel) rfl, tb1 15 (by decide +kernel) rfl, tb5 65 rfl rfl, ⟨rfl, by decide +kernel, by decide +kernel, by decide +kernel⟩⟩
theorem mX9_nameOf : mth yX9_nameOf cX9_nameOf 3 (some .int) RX9 2 := ⟨tb5 68 (by decide +kernel) rfl, tb0 36 (by decide +kernel) rfl, tb1 15 (by decide +kernel) rfl, tb5 69 rfl rfl, ⟨rfl, by decide +kernel, by decide +kernel, by decide +kernel⟩⟩
theorem mX9_pairAt : sth yX9_pairAt cX9_pairAt 4 (some .int) RX9 4 := ⟨tb5 71 (by decide +kernel) rfl, tb1 15 (by decide +kernel) rfl, tb5 72 rfl rfl, ⟨rfl, by decide +kernel, by decide +kernel, by decide +kernel⟩⟩
theorem mX9_leastSingle : mth yX9_leastSingle cX9_leastSingle 4 (some .int) RX9 1 := ⟨tb5 44 (by decide +kernel) rfl, tb0 32 (by decide +kernel) rfl, tb1 15 (by decide +kernel) rfl, tb5 45 rfl rfl, ⟨rfl, by decide +kernel, by decide +kernel, by decide +kernel⟩⟩
theorem mX9_isShut : mth yX9_isShut cX9_isShut 3 (some .boolean) RX9 2 := ⟨tb5 48 (by decide +kernel) rfl, tb0 33 (by decide +kernel) rfl, tb1 15 (by decide +kernel) rfl, tb5 49 rfl rfl, ⟨rfl, by decide +kernel, by decide +kernel, by decide +kernel⟩⟩
theorem mX9_name : mth yX9_name cX9_name 5 (some .int) RX9 2 := ⟨tb5 35 (by decide +kernel) rfl, tb5 36 (by decide +kernel) rfl, tb1 15 (by decide +kernel) rfl, tb5 37 rfl rfl, ⟨rfl, by decide +kernel, by decide +kernel, by decide +kernel⟩⟩
theorem mX9_single : mth yX9_single cX9_single 3 (some .int) RX9 2 := ⟨tb5 51 (by decide +kernel) rfl, tb5 52 (by decide +kernel) rfl, tb1 15 (by decide +kernel) rfl, tb5 53 rfl rfl, ⟨rfl, by decide +kernel, by decide +kernel, by decide +kernel⟩⟩
theorem mX9_table : mth yX9_table cX9_table 8 (some .int) RX9 2 := ⟨tb5 59 (by decide +kernel) rfl, tb5 60 (by decide +kernel) rfl, tb1 15 (by decide +kernel) rfl, tb5 61 rfl rfl, ⟨rfl, by decide +kernel, by decide +kernel, by decide +kernel⟩⟩
theorem mX9_pair : mth yX9_pair cX9_pair 4 (some .int) RX9 3 := ⟨tb5 74 (by decide +kernel) rfl, tb5 75 (by decide +kernel) rfl, tb1 15 (by decide +kernel) rfl, tb5 76 rfl rfl, ⟨rfl, by decide +kernel, by decide +kernel, by decide +kernel⟩⟩
theorem mX9_keeps : mth yX9_keeps cX9_keeps 2 none RX9 0 := ⟨tb5 87 (by decide +kernel) rfl, tb0 37 (by decide +kernel) rfl, tb1 15 (by decide +kernel) rfl, tb5 88 rfl rfl, ⟨rfl, by decide +kernel, by decide +kernel, by decide +kernel⟩⟩
theorem mX9_undo : mth yX9_undo cX9_undo 2 (some .int) RX9 0 := ⟨tb5 78 (by decide +kernel) rfl, tb5 79 (by decide +kernel) rfl, tb1 15 (by decide +kernel) rfl, tb5 80 rfl rfl, ⟨rfl, by decide +kernel, by decide +kernel, by decide +kernel⟩⟩
theorem mX9_grow : mth yX9_grow cX9_grow 4 (some .int) RX9 3 := ⟨tb5 82 (by decide +kernel) rfl, tb5 83 (by decide +kernel) rfl, tb1 15 (by decide +kernel) rfl, tb5 84 rfl rfl, ⟨rfl, by decide +kernel, by decide +kernel, by decide +kernel⟩⟩
theorem mX9_choose : mth yX9_choose cX9_choose 4 (some .int) RX9 2 := ⟨tb5 90 (by decide +kernel) rfl, tb5 91 (by decide +kernel) rfl, tb1 15 (by decide +kernel) rfl, tb5 92 rfl rfl, ⟨rfl, by decide +kernel, by decide +kernel, by decide +kernel⟩⟩
theorem mX9_leastPair : mth yX9_leastPair cX9_leastPair 7 (some .int) RX9 3 := ⟨tb5 103 (by decide +kernel) rfl, tb0 39 (by decide +kernel) rfl, tb1 15 (by decide +kernel) rfl, tb5 104 rfl rfl, ⟨rfl, by decide +kernel, by decide +kernel, by decide +kernel⟩⟩
theorem mX9_projects : mth yX9_projects cX9_projects 7 none RX9 4 := ⟨tb5 107 (by decide +kernel) rfl, tb0 40 (by decide +kernel) rfl, tb1 15 (by decide +kernel) rfl, tb5 108 rfl rfl, ⟨rfl, by decide +kernel, by decide +kernel, by decide +kernel⟩⟩
theorem mX9_extendsBy : mth yX9_extendsBy cX9_extendsBy 8 none RX9 4 := ⟨tb5 119 (by decide +kernel) rfl, tb0 42 (by decide +kernel) rfl, tb1 15 (by decide +kernel) rfl, tb5 120 rfl rfl, ⟨rfl, by decide +kernel, by decide +kernel, by decide +kernel⟩⟩
theorem mX9_raises : mth yX9_raises cX9_raises 4 none RX9 2 := ⟨tb5 127 (by decide +kernel) rfl, tb0 43 (by decide +kernel) rfl, tb1 15 (by decide +kernel) rfl, tb5 128 rfl rfl, ⟨rfl, by decide +kernel, by decide +kernel, by decide +kernel⟩⟩
theorem mX9_isMoved : mth yX9_isMoved cX9_isMoved 5 (some .boolean) RX9 4 := ⟨tb5 99 (by decide +kernel) rfl, tb0 38 (by decide +kernel) rfl, tb1 15 (by decide +kernel) rfl, tb5 100 rfl rfl, ⟨rfl, by decide +kernel, by decide +kernel, by decide +kernel⟩⟩
theorem mX9_project : mth yX9_project cX9_project 5 (some .int) RX9 4 := ⟨tb5 94 (by decide +kernel) rfl, tb5 95 (by decide +kernel) rfl, tb1 15 (by decide +kernel) rfl, tb5 96 rfl rfl, ⟨rfl, by decide +kernel, by decide +kernel, by decide +kernel⟩⟩
theorem mX9_extend : mth yX9_extend cX9_extend 5 (some .int) RX9 4 := ⟨tb5 114 (by decide +kernel) rfl, tb5 115 (by decide +kernel) rfl, tb1 15 (by decide +kernel) rfl, tb5 116 rfl rfl, ⟨rfl, by decide +kernel, by decide +kernel, by decide +kernel⟩⟩
theorem mX9_raise : mth yX9_raise cX9_raise 3 (some .int) RX9 2 := ⟨tb5 122 (by decide +kernel) rfl, tb5 123 (by decide +kernel) rfl, tb1 15 (by decide +kernel) rfl, tb5 124 rfl rfl, ⟨rfl, by decide +kernel, by decide +kernel, by decide +kernel⟩⟩
theorem mX9_nodes : mth yX9_nodes cX9_nodes 4 none RX9 0 := ⟨tb5 151 (by decide +kernel) rfl, tb0 48 (by decide +kernel) rfl, tb1 15 (by decide +kernel) rfl, tb5 152 rfl rfl, ⟨rfl, by decide +kernel, by decide +kernel, by decide +kernel⟩⟩
theorem mX9_shuts : mth yX9_shuts cX9_shuts 4 none RX9 1 := ⟨tb5 143 (by decide +kernel) rfl, tb0 46 (by decide +kernel) rfl, tb1 15 (by decide +kernel) rfl, tb5 144 rfl rfl, ⟨rfl, by decide +kernel, by decide +kernel, by decide +kernel⟩⟩
theorem mX9_arcs : mth yX9_arcs cX9_arcs 5 none RX9 1 := ⟨tb5 139 (by decide +kernel) rfl, tb0 45 (by decide +kernel) rfl, tb1 15 (by decide +kernel) rfl, tb5 140 rfl rfl, ⟨rfl, by decide +kernel, by decide +kernel, by decide +kernel⟩⟩
theorem mX9_directs : mth yX9_directs cX9_directs 8 none RX9 1 := ⟨tb5 147 (by decide +kernel) rfl, tb0 47 (by decide +kernel) rfl, tb1 15 (by decide +kernel) rfl, tb5 148 rfl rfl, ⟨rfl, by decide +kernel, by decide +kernel, by decide +kernel⟩⟩
theorem mX9_sweeps : mth yX9_sweeps cX9_sweeps 4 none RX9 1 := ⟨tb5 135 (by decide +kernel) rfl, tb0 44 (by decide +kernel) rfl, tb1 15 (by decide +kernel) rfl, tb5 136 rfl rfl, ⟨rfl, by decide +kernel, by decide +kernel, by decide +kernel⟩⟩
theorem mX9_sweep : mth yX9_sweep cX9_sweep 4 (some .int) RX9 2 := ⟨tb5 130 (by decide +kernel) rfl, tb5 131 (by decide +kernel) rfl, tb1 15 (by decide +kernel) rfl, tb5 132 rfl rfl, ⟨rfl, by decide +kernel, by decide +kernel, by decide +kernel⟩⟩
theorem mX9_settles : mth yX9_settles cX9_settles 6 (some .int) RX9 1 := ⟨tb5 159 (by decide +kernel) rfl, tb0 49 (by decide +kernel) rfl, tb1 15 (by decide +kernel) rfl, tb5 160 rfl rfl, ⟨rfl, by decide +kernel, by decide +kernel, by decide +kernel⟩⟩
theorem mX9_settle : mth yX9_settle cX9_settle 2 (some .int) RX9 1 := ⟨tb5 154 (by decide +kernel) rfl, tb5 155 (by decide +kernel) rfl, tb1 15 (by decide +kernel) rfl, tb5 156 rfl rfl, ⟨rfl, by decide +kernel, by decide +kernel, by decide +kernel⟩⟩
theorem mX9_bound : mth yX9_bound cX9_bound 4 (some .int) RX9 1 := ⟨tb5 162 (by decide +kernel) rfl, tb5 163 (by decide +kernel) rfl, tb1 15 (by decide +kernel) rfl, tb5 164 rfl rfl, ⟨rfl, by decide +kernel, by decide +kernel, by decide +kernel⟩⟩
theorem mX9_totalOf : mth yX9_totalOf cX9_totalOf 4 (some .int) RX9 1 := ⟨tb5 171 (by decide +kernel) rfl, tb0 50 (by decide +kernel) rfl, tb1 15 (by decide +kernel) rfl, tb5 172 rfl rfl, ⟨rfl, by decide +kernel, by decide +kernel, by decide +kernel⟩⟩
theorem mX9_total : mth yX9_total cX9_total 2 (some .int) RX9 0 := ⟨tb5 166 (by decide +kernel) rfl, tb5 167 (by decide +kernel) rfl, tb1 15 (by decide +kernel) rfl, tb5 168 rfl rfl, ⟨rfl, by decide +kernel, by decide +kernel, by decide +kernel⟩⟩
theorem mX9_choices : mth yX9_choices cX9_choices 3 (some .int) RX9 0 := ⟨tb5 183 (by decide +kernel) rfl, tb0 52 (by decide +kernel) rfl, tb1 15 (by decide +kernel) rfl, tb5 184 rfl rfl, ⟨rfl, by decide +kernel, by decide +kernel, by decide +kernel⟩⟩
theorem mX9_takes : mth yX9_takes cX9_takes 4 none RX9 1 := ⟨tb5 187 (by decide +kernel) rfl, tb0 53 (by decide +kernel) rfl, tb1 15 (by decide +kernel) rfl, tb5 188 rfl rfl, ⟨rfl, by decide +kernel, by decide +kernel, by decide +kernel⟩⟩
theorem mX9_meets : mth yX9_meets cX9_meets 4 none RX9 1 := ⟨tb5 191 (by decide +kernel) rfl, tb0 54 (by decide +kernel) rfl, tb1 15 (by decide +kernel) rfl, tb5 192 rfl rfl, ⟨rfl, by decide +kernel, by decide +kernel, by decide +kernel⟩⟩
theorem mX9_looks : mth yX9_looks cX9_looks 4 none RX9 0 := ⟨tb5 179 (by decide +kernel) rfl, tb0 51 (by decide +kernel) rfl, tb1 15 (by decide +kernel) rfl, tb5 180 rfl rfl, ⟨rfl, by decide +kernel, by decide +kernel, by decide +kernel⟩⟩
theorem mX9_best : mth yX9_best cX9_best 2 (some .int) RX9 1 := ⟨tb5 174 (by decide +kernel) rfl, tb5 175 (by decide +kernel) rfl, tb1 15 (by decide +kernel) rfl, tb5 176 rfl rfl, ⟨rfl, by decide +kernel, by decide +kernel, by decide +kernel⟩⟩
theorem mX9_next : mth yX9_next cX9_next 2 (some .int) RX9 1 := ⟨tb5 194 (by decide +kernel) rfl, tb5 195 (by decide +kernel) rfl, tb1 15 (by decide +kernel) rfl, tb5 196 rfl rfl, ⟨rfl, by decide +kernel, by decide +kernel, by decide +kernel⟩⟩
theorem mX9_backbone : mth yX9_backbone cX9_backbone 1 (some .int) RX9 0 := ⟨tb5 198 (by decide +kernel) rfl, tb5 199 (by decide +kernel) rfl, tb1 15 (by decide +kernel) rfl, tb5 200 rfl rfl, ⟨rfl, by decide +kernel, by decide +kernel, by decide +kernel⟩⟩
theorem mX9_least : mth yX9_least cX9_least 8 (some .int) RX9 3 := ⟨tb5 207 (by decide +kernel) rfl, tb0 55 (by decide +kernel) rfl, tb1 15 (by decide +kernel) rfl, tb5 208 rfl rfl, ⟨rfl, by decide +kernel, by decide +kernel, by decide +kernel⟩⟩
theorem mX9_with : mth yX9_with cX9_with 3 (some .int) RX9 2 := ⟨tb5 202 (by decide +kernel) rfl, tb5 203 (by decide +kernel) rfl, tb1 15 (by decide +kernel) rfl, tb5 204 rfl rfl, ⟨rfl, by decide +kernel, by decide +kernel, by decide +kernel⟩⟩
theorem mX9_without : mth yX9_without cX9_without 2 (some .int) RX9 1 := ⟨tb5 210 (by decide +kernel) rfl, tb5 211 (by decide +kernel) rfl, tb1 15 (by decide +kernel) rfl, tb5 212 rfl rfl, ⟨rfl, by decide +kernel, by decide +kernel, by decide +kernel⟩⟩
theorem mX9_pairsWith : mth yX9_pairsWith cX9_pairsWith 7 (some .int) RX9 3 := ⟨tb5 223 (by decide +kernel) rfl, tb0 57 (by decide +kernel) rfl, tb1 15 (by decide +kernel) rfl, tb5 224 rfl rfl, ⟨rfl, by decide +kernel, by decide +kernel, by decide +kernel⟩⟩
theorem mX9_lowOf : mth yX9_lowOf cX9_lowOf 7 (some .int) RX9 1 := ⟨tb5 219 (by decide +kernel) rfl, tb0 56 (by decide +kernel) rfl, tb1 15 (by decide +kernel) rfl, tb5 220 rfl rfl, ⟨rfl, by decide +kernel, by decide +kernel, by decide +kernel⟩⟩
theorem mX9_tries : mth yX9_tries cX9_tries 5 (some .int) RX9 0 := ⟨tb5 214 (by decide +kernel) rfl, tb5 215 (by decide +kernel) rfl, tb1 15 (by decide +kernel) rfl, tb5 216 rfl rfl, ⟨rfl, by decide +kernel, by decide +kernel, by decide +kernel⟩⟩
theorem mX9_count : mth yX9_count cX9_count 5 (some .int) RX9 1 := ⟨tb5 226 (by decide +kernel) rfl, tb5 227 (by decide +kernel) rfl, tb1 15 (by decide +kernel) rfl, tb5 228 rfl rfl, ⟨rfl, by decide +kernel, by decide +kernel, by decide +kernel⟩⟩
theorem mJ6_bitCount_0f7a4 : sth yJ6_bitCount_0f7a4 cJ6_bitCount_0f7a4 1 (some .int) RJ6 1 := ⟨tb4 106 (by decide +kernel) rfl, tb1 16 (by decide +kernel) rfl, tb4 107 rfl rfl, ⟨rfl, by decide +kernel, by decide +kernel, by decide +kernel⟩⟩
theorem kX0_11 : Cond.methodLink RX0 11 yX3_init ∈ TB := tb1 74 (by decide +kernel) rfl
theorem kX0_14 : Cond.fieldLink RX0 14 (TX0 0).1 (TX0 0).2.1 (TX0 0).2.2.1 ∈ TB := tb1 75 (by decide +kernel) rfl
theorem kX0_20 : Cond.fieldLink RX0 20 (TX0 1).1 (TX0 1).2.1 (TX0 1).2.2.1 ∈ TB := tb1 76 (by decide +kernel) rfl
theorem kX0_23 : Cond.fieldLink RX0 23 (TX0 2).1 (TX0 2).2.1 (TX0 2).2.2.1 ∈ TB := tb1 77 (by decide +kernel) rfl
theorem kX0_26 : Cond.fieldLink RX0 26 (TX0 3).1 (TX0 3).2.1 (TX0 3).2.2.1 ∈ TB := tb1 78 (by decide +kernel) rfl
theorem kX0_29 : Cond.fieldLink RX0 29 (TX0 6).1 (TX0 6).2.1 (TX0 6).2.2.1 ∈ TB := tb1 81 (by decide +kernel) rfl
theorem kX0_33 : Cond.fieldLink RX0 33 (TX0 4).1 (TX0 4).2.1 (TX0 4).2.2.1 ∈ TB := tb1 79 (by decide +kernel) rfl
theorem kX0_36 : Cond.fieldLink RX0 36 (TX0 5).1 (TX0 5).2.1 (TX0 5).2.2.1 ∈ TB := tb1 80 (by decide +kernel) rfl
theorem kX0_39 : Cond.methodLink RX0 39 yX3_clear ∈ TB := tb2 21 (by decide +kernel) rfl
theorem kX0_42 : Cond.methodLink RX0 42 yX3_takeFrom ∈ TB := tb2 194 (by decide +kernel) rfl
theorem kX0_46 : Cond.methodLink RX0 46 yX3_set ∈ TB := tb2 69 (by decide +kernel) rfl
theorem kX0_50 : Cond.methodLink RX0 50 yX0_hasValue ∈ TB := tb2 74 (by decide +kernel) rfl
theorem kX0_54 : Cond.methodLink RX0 54 yX0_setSingle ∈ TB := tb2 79 (by decide +kernel) rfl
theorem kX0_58 : Cond.methodLink RX0 58 yX0_hasName ∈ TB := tb2 90 (by decide +kernel) rfl
theorem kX0_62 : Cond.methodLink RX0 62 yX0_isJoined ∈ TB := tb2 94 (by decide +kernel) rfl
theorem kX0_65 : Cond.methodLink RX0 65 yX0_valuesOf ∈ TB := tb2 102 (by decide +kernel) rfl
theorem kX0_69 : Cond.methodLink RX0 69 Lib.Math.min.name ∈ TB ∧ Cond.static Lib.Math.min.name ∈ TB ∧ Cond.initialized "java/lang/Math" ∈ TB ∧ Cond.code Lib.Math.min.name Lib.Math.min.code 2 (some .int) ∈ TB := ⟨tb2 106 (by decide +kernel) rfl, tb2 107 (by decide +kernel) rfl, tb1 4 (by decide +kernel) rfl, tb2 108 rfl rfl⟩
theorem kX0_75 : Cond.methodLink RX0 75 yX0_setPair ∈ TB := tb2 109 (by decide +kernel) rfl
theorem kX0_79 : Cond.methodLink RX0 79 yX0_nameOn ∈ TB := tb2 98 (by decide +kernel) rfl
theorem kX0_82 : Cond.methodLink RX0 82 yX0_hasPair ∈ TB := tb2 120 (by decide +kernel) rfl
theorem kX0_86 : Cond.methodLink RX0 86 yX3_get ∈ TB := tb2 78 (by decide +kernel) rfl
theorem kX0_89 : Cond.methodLink RX0 89 yX0_hasTable ∈ TB := tb2 124 (by decide +kernel) rfl
theorem kX0_92 : Cond.methodLink RX0 92 yX0_valuesOn ∈ TB := tb2 128 (by decide +kernel) rfl
theorem kX0_95 : Cond.methodLink RX0 95 yX0_singleAt ∈ TB := tb2 83 (by decide +kernel) rfl
theorem kX0_98 : Cond.methodLink RX0 98 yX0_pairAt ∈ TB := tb2 113 (by decide +kernel) rfl
theorem kX0_102 : Cond.methodLink RX0 102 yX0_singleCost ∈ TB := tb2 226 (by decide +kernel) rfl
theorem kX0_105 : Cond.methodLink RX0 105 yX0_acrossFrom ∈ TB := tb3 18 (by decide +kernel) rfl
theorem kX0_108 : Cond.methodLink RX0 108 yX0_pairFrom ∈ TB := tb3 21 (by decide +kernel) rfl
theorem kX0_112 : Cond.methodLink RX0 112 yX0_leastPairOf ∈ TB := tb3 14 (by decide +kernel) rfl
theorem kX0_115 : Cond.methodLink RX0 115 yX0_pairCost ∈ TB := tb3 28 (by decide +kernel) rfl
theorem kX0_118 : Cond.methodLink RX0 118 Lib.Math.max.name ∈ TB ∧ Cond.static Lib.Math.max.name ∈ TB ∧ Cond.initialized "java/lang/Math" ∈ TB ∧ Cond.code Lib.Math.max.name Lib.Math.max.code 2 (some .int) ∈ TB := ⟨tb3 32 (by decide +kernel) rfl, tb1 38 (by decide +kernel) rfl, tb1 4 (by decide +kernel) rfl, tb1 39 rfl rfl⟩
theorem kX0_121 : Cond.methodLink RX0 121 yX0_constant ∈ TB := tb2 222 (by decide +kernel) rfl
theorem kX0_125 : Cond.methodLink RX0 125 yX0_sum ∈ TB := tb2 230 (by decide +kernel) rfl
theorem kX0_128 : Cond.methodLink RX0 128 yX0_isShut ∈ TB := tb2 218 (by decide +kernel) rfl
theorem kX0_131 : Cond.methodLink RX0 131 yX0_shutOf ∈ TB := tb4 104 (by decide +kernel) rfl
theorem kX0_134 : Cond.methodLink RX0 134 yJ6_bitCount_0f7a4 ∈ TB := tb4 105 (by decide +kernel) rfl
theorem kX0_139 : Cond.methodLink RX0 139 yX0_costBeside ∈ TB := tb3 77 (by decide +kernel) rfl
theorem kX0_143 : Cond.methodLink RX0 143 yX3_isLike ∈ TB := tb3 196 (by decide +kernel) rfl
theorem kX0_147 : Cond.methodLink RX0 147 yX0_enlarge ∈ TB := tb3 59 (by decide +kernel) rfl
theorem kX0_150 : Cond.methodLink RX0 150 yX0_lessen ∈ TB := tb3 94 (by decide +kernel) rfl
theorem kX1_11 : Cond.fieldLink RX1 11 (TX1 0).1 (TX1 0).2.1 (TX1 0).2.2.1 ∈ TB := tb1 126 (by decide +kernel) rfl
theorem kX1_17 : Cond.methodLink RX1 17 yX3_init ∈ TB := tb1 125 (by decide +kernel) rfl
theorem kX1_20 : Cond.fieldLink RX1 20 (TX1 2).1 (TX1 2).2.1 (TX1 2).2.2.1 ∈ TB := tb1 128 (by decide +kernel) rfl
theorem kX1_24 : Cond.fieldLink RX1 24 (TX1 1).1 (TX1 1).2.1 (TX1 1).2.2.1 ∈ TB := tb1 127 (by decide +kernel) rfl
theorem kX1_27 : Cond.methodLink RX1 27 yX0_copyTo ∈ TB := tb3 50 (by decide +kernel) rfl
theorem kX1_33 : Cond.methodLink RX1 33 Lib.Math.min.name ∈ TB ∧ Cond.static Lib.Math.min.name ∈ TB ∧ Cond.initialized "java/lang/Math" ∈ TB ∧ Cond.code Lib.Math.min.name Lib.Math.min.code 2 (some .int) ∈ TB := ⟨tb3 54 (by decide +kernel) rfl, tb2 107 (by decide +kernel) rfl, tb1 4 (by decide +kernel) rfl, tb2 108 rfl rfl⟩
theorem kX1_39 : Cond.methodLink RX1 39 yX0_copyFrom ∈ TB := tb3 212 (by decide +kernel) rfl
theorem kX2_13 : Cond.methodLink RX2 13 yX3_init ∈ TB := tb1 59 (by decide +kernel) rfl
theorem kX2_16 : Cond.fieldLink RX2 16 (TX2 0).1 (TX2 0).2.1 (TX2 0).2.2.1 ∈ TB := tb1 60 (by decide +kernel) rfl
theorem kX2_20 : Cond.methodLink RX2 20 yX0_clear ∈ TB := tb2 17 (by decide +kernel) rfl
theorem kX2_25 : Cond.fieldLink RX2 25 (TX2 1).1 (TX2 1).2.1 (TX2 1).2.2.1 ∈ TB := tb1 61 (by decide +kernel) rfl
theorem kX2_29 : Cond.methodLink RX2 29 yX6_length ∈ TB := tb2 25 (by decide +kernel) rfl
theorem kX2_35 : Cond.methodLink RX2 35 yX2_readItem ∈ TB := tb2 29 (by decide +kernel) rfl
theorem kX2_39 : Cond.methodLink RX2 39 yX0_keepToTop ∈ TB := tb2 132 (by decide +kernel) rfl
theorem kX2_42 : Cond.methodLink RX2 42 yX6_letterAt ∈ TB := tb2 33 (by decide +kernel) rfl
theorem kX2_46 : Cond.methodLink RX2 46 yX2_numbersOf ∈ TB := tb2 41 (by decide +kernel) rfl
theorem kX2_49 : Cond.methodLink RX2 49 yX2_readNumbers ∈ TB := tb2 44 (by decide +kernel) rfl
theorem kX2_53 : Cond.methodLink RX2 53 yX2_tell ∈ TB := tb2 56 (by decide +kernel) rfl
theorem kX2_57 : Cond.methodLink RX2 57 yX2_readNumber ∈ TB := tb2 48 (by decide +kernel) rfl
theorem kX2_60 : Cond.methodLink RX2 60 yX2_isFigure ∈ TB := tb2 52 (by decide +kernel) rfl
theorem kX2_64 : Cond.methodLink RX2 64 yX3_set ∈ TB := tb2 55 (by decide +kernel) rfl
theorem kX2_68 : Cond.methodLink RX2 68 yX3_get ∈ TB := tb2 60 (by decide +kernel) rfl
theorem kX2_71 : Cond.methodLink RX2 71 yX0_tellTop ∈ TB := tb2 61 (by decide +kernel) rfl
theorem kX2_74 : Cond.methodLink RX2 74 yX0_addName ∈ TB := tb2 65 (by decide +kernel) rfl
theorem kX2_77 : Cond.methodLink RX2 77 yX0_tellSingle ∈ TB := tb2 70 (by decide +kernel) rfl
theorem kX2_81 : Cond.methodLink RX2 81 yX0_addTable ∈ TB := tb2 86 (by decide +kernel) rfl
theorem kX2_84 : Cond.methodLink RX2 84 yX0_tellPair ∈ TB := tb2 116 (by decide +kernel) rfl
theorem kX3_7 : Cond.methodLink RX3 7 Lib.Math.max.name ∈ TB ∧ Cond.static Lib.Math.max.name ∈ TB ∧ Cond.initialized "java/lang/Math" ∈ TB ∧ Cond.code Lib.Math.max.name Lib.Math.max.code 2 (some .int) ∈ TB := ⟨tb1 37 (by decide +kernel) rfl, tb1 38 (by decide +kernel) rfl, tb1 4 (by decide +kernel) rfl, tb1 39 rfl rfl⟩
theorem kX3_13 : Cond.fieldLink RX3 13 (TX3 0).1 (TX3 0).2.1 (TX3 0).2.2.1 ∈ TB := tb1 40 (by decide +kernel) rfl
theorem kX3_19 : Cond.methodLink RX3 19 yX3_get ∈ TB := tb2 198 (by decide +kernel) rfl
theorem kX4_11 : Cond.methodLink RX4 11 yX3_init ∈ TB := tb1 143 (by decide +kernel) rfl
theorem kX4_14 : Cond.fieldLink RX4 14 (TX4 0).1 (TX4 0).2.1 (TX4 0).2.2.1 ∈ TB := tb1 144 (by decide +kernel) rfl
theorem kX4_20 : Cond.fieldLink RX4 20 (TX4 1).1 (TX4 1).2.1 (TX4 1).2.2.1 ∈ TB := tb1 145 (by decide +kernel) rfl
theorem kX4_23 : Cond.fieldLink RX4 23 (TX4 2).1 (TX4 2).2.1 (TX4 2).2.2.1 ∈ TB := tb1 146 (by decide +kernel) rfl
theorem kX4_27 : Cond.fieldLink RX4 27 (TX4 3).1 (TX4 3).2.1 (TX4 3).2.2.1 ∈ TB := tb1 147 (by decide +kernel) rfl
theorem kX4_30 : Cond.fieldLink RX4 30 (TX4 4).1 (TX4 4).2.1 (TX4 4).2.2.1 ∈ TB := tb1 148 (by decide +kernel) rfl
theorem kX4_33 : Cond.methodLink RX4 33 yX0_top ∈ TB := tb3 228 (by decide +kernel) rfl
theorem kX4_39 : Cond.fieldLink RX4 39 (TX4 5).1 (TX4 5).2.1 (TX4 5).2.2.1 ∈ TB := tb1 149 (by decide +kernel) rfl
theorem kX4_42 : Cond.fieldLink RX4 42 (TX4 6).1 (TX4 6).2.1 (TX4 6).2.2.1 ∈ TB := tb1 150 (by decide +kernel) rfl
theorem kX4_45 : Cond.fieldLink RX4 45 (TX4 7).1 (TX4 7).2.1 (TX4 7).2.2.1 ∈ TB := tb1 151 (by decide +kernel) rfl
theorem kX4_48 : Cond.fieldLink RX4 48 (TX4 8).1 (TX4 8).2.1 (TX4 8).2.2.1 ∈ TB := tb1 152 (by decide +kernel) rfl
theorem kX4_51 : Cond.fieldLink RX4 51 (TX4 9).1 (TX4 9).2.1 (TX4 9).2.2.1 ∈ TB := tb1 153 (by decide +kernel) rfl
theorem kX4_54 : Cond.fieldLink RX4 54 (TX4 10).1 (TX4 10).2.1 (TX4 10).2.2.1 ∈ TB := tb1 154 (by decide +kernel) rfl
theorem kX4_57 : Cond.methodLink RX4 57 yX0_constant ∈ TB := tb3 229 (by decide +kernel) rfl
theorem kX4_60 : Cond.methodLink RX4 60 yX4_goOn ∈ TB := tb3 230 (by decide +kernel) rfl
theorem kX4_64 : Cond.methodLink RX4 64 yX0_names ∈ TB := tb3 234 (by decide +kernel) rfl
theorem kX4_67 : Cond.methodLink RX4 67 yX4_note ∈ TB := tb3 235 (by decide +kernel) rfl
theorem kX4_71 : Cond.methodLink RX4 71 yX0_valuesOf ∈ TB := tb4 6 (by decide +kernel) rfl
theorem kX4_75 : Cond.methodLink RX4 75 yX4_take ∈ TB := tb4 7 (by decide +kernel) rfl
theorem kX4_79 : Cond.methodLink RX4 79 yX3_set ∈ TB := tb4 11 (by decide +kernel) rfl
theorem kX4_83 : Cond.methodLink RX4 83 yX0_costBeside ∈ TB := tb4 12 (by decide +kernel) rfl
theorem kX4_87 : Cond.methodLink RX4 87 yX0_sum ∈ TB := tb4 13 (by decide +kernel) rfl
theorem kX4_91 : Cond.methodLink RX4 91 yX4_chosenBits ∈ TB := tb3 239 (by decide +kernel) rfl
theorem kX4_94 : Cond.methodLink RX4 94 yX3_takeFrom ∈ TB := tb4 4 (by decide +kernel) rfl
theorem kX4_98 : Cond.methodLink RX4 98 Lib.Math.min.name ∈ TB ∧ Cond.static Lib.Math.min.name ∈ TB ∧ Cond.initialized "java/lang/Math" ∈ TB ∧ Cond.code Lib.Math.min.name Lib.Math.min.code 2 (some .int) ∈ TB := ⟨tb4 5 (by decide +kernel) rfl, tb2 107 (by decide +kernel) rfl, tb1 4 (by decide +kernel) rfl, tb2 108 rfl rfl⟩
theorem kX4_103 : Cond.methodLink RX4 103 yX3_get ∈ TB := tb4 3 (by decide +kernel) rfl
theorem kX5_11 : Cond.methodLink RX5 11 yX3_init ∈ TB := tb1 106 (by decide +kernel) rfl
theorem kX5_14 : Cond.fieldLink RX5 14 (TX5 0).1 (TX5 0).2.1 (TX5 0).2.2.1 ∈ TB := tb1 107 (by decide +kernel) rfl
theorem kX5_20 : Cond.fieldLink RX5 20 (TX5 1).1 (TX5 1).2.1 (TX5 1).2.2.1 ∈ TB := tb1 108 (by decide +kernel) rfl
theorem kX5_23 : Cond.fieldLink RX5 23 (TX5 2).1 (TX5 2).2.1 (TX5 2).2.2.1 ∈ TB := tb1 109 (by decide +kernel) rfl
theorem kX5_26 : Cond.methodLink RX5 26 yX0_copyTo ∈ TB := tb3 190 (by decide +kernel) rfl
theorem kX5_32 : Cond.methodLink RX5 32 yX5_doOne ∈ TB := tb3 191 (by decide +kernel) rfl
theorem kX5_36 : Cond.methodLink RX5 36 yX0_areAs ∈ TB := tb3 192 (by decide +kernel) rfl
theorem kX5_40 : Cond.methodLink RX5 40 yX5_doArcs ∈ TB := tb3 126 (by decide +kernel) rfl
theorem kX5_44 : Cond.methodLink RX5 44 yX5_doDirected ∈ TB := tb3 143 (by decide +kernel) rfl
theorem kX5_47 : Cond.methodLink RX5 47 yX5_doNodes ∈ TB := tb3 173 (by decide +kernel) rfl
theorem kX5_50 : Cond.methodLink RX5 50 yX0_names ∈ TB := tb3 147 (by decide +kernel) rfl
theorem kX5_54 : Cond.methodLink RX5 54 yX0_leastSingle ∈ TB := tb3 176 (by decide +kernel) rfl
theorem kX5_58 : Cond.methodLink RX5 58 yX0_moveToConstant ∈ TB := tb3 177 (by decide +kernel) rfl
theorem kX5_62 : Cond.methodLink RX5 62 yX0_topShutSingles ∈ TB := tb3 178 (by decide +kernel) rfl
theorem kX5_65 : Cond.methodLink RX5 65 yX0_tables ∈ TB := tb3 129 (by decide +kernel) rfl
theorem kX5_68 : Cond.methodLink RX5 68 yX0_topPairsOfTopSingles ∈ TB := tb3 133 (by decide +kernel) rfl
theorem kX5_71 : Cond.methodLink RX5 71 yX5_projectLeasts ∈ TB := tb3 137 (by decide +kernel) rfl
theorem kX5_75 : Cond.methodLink RX5 75 yX0_valuesOn ∈ TB := tb3 140 (by decide +kernel) rfl
theorem kX5_79 : Cond.methodLink RX5 79 yX0_leastPairOf ∈ TB := tb3 141 (by decide +kernel) rfl
theorem kX5_83 : Cond.methodLink RX5 83 yX0_moveToValue ∈ TB := tb3 142 (by decide +kernel) rfl
theorem kX5_87 : Cond.methodLink RX5 87 yX0_nameOn ∈ TB := tb3 148 (by decide +kernel) rfl
theorem kX5_90 : Cond.methodLink RX5 90 yX5_direct ∈ TB := tb3 149 (by decide +kernel) rfl
theorem kX5_93 : Cond.methodLink RX5 93 yX5_reachOf ∈ TB := tb3 153 (by decide +kernel) rfl
theorem kX5_97 : Cond.methodLink RX5 97 yX3_set ∈ TB := tb3 165 (by decide +kernel) rfl
theorem kX5_100 : Cond.methodLink RX5 100 yX5_needOf ∈ TB := tb3 166 (by decide +kernel) rfl
theorem kX5_103 : Cond.methodLink RX5 103 yX3_get ∈ TB := tb3 170 (by decide +kernel) rfl
theorem kX5_106 : Cond.methodLink RX5 106 yX0_moveToTable ∈ TB := tb3 172 (by decide +kernel) rfl
theorem kX5_109 : Cond.methodLink RX5 109 yX0_top ∈ TB := tb3 156 (by decide +kernel) rfl
theorem kX5_112 : Cond.methodLink RX5 112 yX0_valuesOf ∈ TB := tb3 160 (by decide +kernel) rfl
theorem kX5_115 : Cond.methodLink RX5 115 yX0_pairCost ∈ TB := tb3 161 (by decide +kernel) rfl
theorem kX5_118 : Cond.methodLink RX5 118 yX0_singleCost ∈ TB := tb3 162 (by decide +kernel) rfl
theorem kX5_121 : Cond.methodLink RX5 121 yX0_sum ∈ TB := tb3 163 (by decide +kernel) rfl
theorem kX5_124 : Cond.methodLink RX5 124 Lib.Math.min.name ∈ TB ∧ Cond.static Lib.Math.min.name ∈ TB ∧ Cond.initialized "java/lang/Math" ∈ TB ∧ Cond.code Lib.Math.min.name Lib.Math.min.code 2 (some .int) ∈ TB := ⟨tb3 164 (by decide +kernel) rfl, tb2 107 (by decide +kernel) rfl, tb1 4 (by decide +kernel) rfl, tb2 108 rfl rfl⟩
theorem kX5_129 : Cond.methodLink RX5 129 Lib.Math.max.name ∈ TB ∧ Cond.static Lib.Math.max.name ∈ TB ∧ Cond.initialized "java/lang/Math" ∈ TB ∧ Cond.code Lib.Math.max.name Lib.Math.max.code 2 (some .int) ∈ TB := ⟨tb3 171 (by decide +kernel) rfl, tb1 38 (by decide +kernel) rfl, tb1 4 (by decide +kernel) rfl, tb1 39 rfl rfl⟩
theorem kX6_11 : Cond.methodLink RX6 11 yX3_init ∈ TB := tb1 33 (by decide +kernel) rfl
theorem kX6_14 : Cond.fieldLink RX6 14 (TX6 0).1 (TX6 0).2.1 (TX6 0).2.2.1 ∈ TB := tb1 45 (by decide +kernel) rfl
theorem kX6_20 : Cond.fieldLink RX6 20 (TX6 1).1 (TX6 1).2.1 (TX6 1).2.2.1 ∈ TB := tb1 46 (by decide +kernel) rfl
theorem kX6_24 : Cond.methodLink RX6 24 yX3_set ∈ TB := tb2 9 (by decide +kernel) rfl
theorem kX6_28 : Cond.methodLink RX6 28 yX3_get ∈ TB := tb2 37 (by decide +kernel) rfl
theorem kX7_11 : Cond.methodLink RX7 11 yX3_init ∈ TB := tb1 185 (by decide +kernel) rfl
theorem kX7_14 : Cond.fieldLink RX7 14 (TX7 0).1 (TX7 0).2.1 (TX7 0).2.2.1 ∈ TB := tb1 186 (by decide +kernel) rfl
theorem kX7_20 : Cond.methodLink RX7 20 yX0_top ∈ TB := tb4 70 (by decide +kernel) rfl
theorem kX7_26 : Cond.fieldLink RX7 26 (TX7 1).1 (TX7 1).2.1 (TX7 1).2.2.1 ∈ TB := tb1 187 (by decide +kernel) rfl
theorem kX7_30 : Cond.fieldLink RX7 30 (TX7 2).1 (TX7 2).2.1 (TX7 2).2.2.1 ∈ TB := tb1 188 (by decide +kernel) rfl
theorem kX7_33 : Cond.methodLink RX7 33 yX0_constant ∈ TB := tb4 71 (by decide +kernel) rfl
theorem kX7_36 : Cond.methodLink RX7 36 yX7_goOn ∈ TB := tb4 72 (by decide +kernel) rfl
theorem kX7_40 : Cond.methodLink RX7 40 yX0_names ∈ TB := tb4 76 (by decide +kernel) rfl
theorem kX7_43 : Cond.methodLink RX7 43 yX0_valuesOf ∈ TB := tb4 77 (by decide +kernel) rfl
theorem kX7_47 : Cond.methodLink RX7 47 yX7_tryValue ∈ TB := tb4 78 (by decide +kernel) rfl
theorem kX7_51 : Cond.methodLink RX7 51 yX3_set ∈ TB := tb4 82 (by decide +kernel) rfl
theorem kX7_55 : Cond.methodLink RX7 55 yX0_costBeside ∈ TB := tb4 83 (by decide +kernel) rfl
theorem kX7_59 : Cond.methodLink RX7 59 yX0_sum ∈ TB := tb4 84 (by decide +kernel) rfl
theorem kX7_63 : Cond.methodLink RX7 63 yX7_lowOf ∈ TB := tb4 85 (by decide +kernel) rfl
theorem kX7_67 : Cond.methodLink RX7 67 yX7_leastBeside ∈ TB := tb4 89 (by decide +kernel) rfl
theorem kX7_70 : Cond.methodLink RX7 70 Lib.Math.min.name ∈ TB ∧ Cond.static Lib.Math.min.name ∈ TB ∧ Cond.initialized "java/lang/Math" ∈ TB ∧ Cond.code Lib.Math.min.name Lib.Math.min.code 2 (some .int) ∈ TB := ⟨tb4 93 (by decide +kernel) rfl, tb2 107 (by decide +kernel) rfl, tb1 4 (by decide +kernel) rfl, tb2 108 rfl rfl⟩
theorem kX8_12 : Cond.fieldLink RX8 12 (TX8 0).1 (TX8 0).2.1 (TX8 0).2.2.1 ∈ TB := tb2 140 (by decide +kernel) rfl
theorem kX8_19 : Cond.fieldLink RX8 19 (TX8 1).1 (TX8 1).2.1 (TX8 1).2.2.1 ∈ TB := tb2 141 (by decide +kernel) rfl
theorem kX8_26 : Cond.fieldLink RX8 26 (TX8 2).1 (TX8 2).2.1 (TX8 2).2.2.1 ∈ TB := tb2 142 (by decide +kernel) rfl
theorem kX8_30 : Cond.fieldLink RX8 30 (TX8 3).1 (TX8 3).2.1 (TX8 3).2.2.1 ∈ TB := tb2 143 (by decide +kernel) rfl
theorem kX8_35 : Cond.methodLink RX8 35 yX3_init ∈ TB := tb1 98 (by decide +kernel) rfl
theorem kX8_38 : Cond.fieldLink RX8 38 (TX8 4).1 (TX8 4).2.1 (TX8 4).2.2.1 ∈ TB := tb2 144 (by decide +kernel) rfl
theorem kX8_45 : Cond.fieldLink RX8 45 (TX8 5).1 (TX8 5).2.1 (TX8 5).2.2.1 ∈ TB := tb2 145 (by decide +kernel) rfl
theorem kX8_51 : Cond.methodLink RX8 51 yX1_init ∈ TB := tb1 119 (by decide +kernel) rfl
theorem kX8_52 : Cond.fieldLink RX8 52 (TX8 6).1 (TX8 6).2.1 (TX8 6).2.2.1 ∈ TB := tb2 146 (by decide +kernel) rfl
theorem kX8_59 : Cond.fieldLink RX8 59 (TX8 7).1 (TX8 7).2.1 (TX8 7).2.2.1 ∈ TB := tb2 147 (by decide +kernel) rfl
theorem kX8_66 : Cond.fieldLink RX8 66 (TX8 8).1 (TX8 8).2.1 (TX8 8).2.2.1 ∈ TB := tb2 148 (by decide +kernel) rfl
theorem kX8_82 : Cond.methodLink RX8 82 yX6_add ∈ TB := tb2 5 (by decide +kernel) rfl
theorem kX8_86 : Cond.methodLink RX8 86 yX2_readAll ∈ TB := tb2 13 (by decide +kernel) rfl
theorem kX8_90 : Cond.methodLink RX8 90 yX6_clear ∈ TB := tb2 136 (by decide +kernel) rfl
theorem kX8_93 : Cond.methodLink RX8 93 yX6_length ∈ TB := tb2 173 (by decide +kernel) rfl
theorem kX8_94 : Cond.methodLink RX8 94 yX0_names ∈ TB := tb2 186 (by decide +kernel) rfl
theorem kX8_97 : Cond.methodLink RX8 97 yX0_takeAll ∈ TB := tb2 190 (by decide +kernel) rfl
theorem kX8_101 : Cond.methodLink RX8 101 yX3_clear ∈ TB := tb2 199 (by decide +kernel) rfl
theorem kX8_102 : Cond.methodLink RX8 102 yX1_clear ∈ TB := tb2 200 (by decide +kernel) rfl
theorem kX8_103 : Cond.methodLink RX8 103 yX0_hasName ∈ TB := tb2 208 (by decide +kernel) rfl
theorem kX8_106 : Cond.methodLink RX8 106 yX0_valuesOf ∈ TB := tb2 209 (by decide +kernel) rfl
theorem kX8_110 : Cond.methodLink RX8 110 yX0_tablesOf ∈ TB := tb2 210 (by decide +kernel) rfl
theorem kX8_113 : Cond.methodLink RX8 113 yX0_shutOf ∈ TB := tb2 214 (by decide +kernel) rfl
theorem kX8_116 : Cond.methodLink RX8 116 yX0_leastSingle ∈ TB := tb2 234 (by decide +kernel) rfl
theorem kX8_119 : Cond.methodLink RX8 119 yX0_hasValue ∈ TB := tb3 2 (by decide +kernel) rfl
theorem kX8_123 : Cond.methodLink RX8 123 yX0_singleCost ∈ TB := tb3 3 (by decide +kernel) rfl
theorem kX8_127 : Cond.methodLink RX8 127 yX0_hasTable ∈ TB := tb3 8 (by decide +kernel) rfl
theorem kX8_130 : Cond.methodLink RX8 130 yX0_nameOn ∈ TB := tb3 9 (by decide +kernel) rfl
theorem kX8_133 : Cond.methodLink RX8 133 yX0_leastOfTable ∈ TB := tb3 10 (by decide +kernel) rfl
theorem kX8_136 : Cond.methodLink RX8 136 yX0_greatestOfTable ∈ TB := tb3 24 (by decide +kernel) rfl
theorem kX8_139 : Cond.methodLink RX8 139 yX0_hasPair ∈ TB := tb3 37 (by decide +kernel) rfl
theorem kX8_143 : Cond.methodLink RX8 143 yX0_pairCost ∈ TB := tb3 38 (by decide +kernel) rfl
theorem kX8_147 : Cond.methodLink RX8 147 yX8_isStep ∈ TB := tb3 43 (by decide +kernel) rfl
theorem kX8_150 : Cond.methodLink RX8 150 yX1_keep ∈ TB := tb3 46 (by decide +kernel) rfl
theorem kX8_153 : Cond.methodLink RX8 153 yX0_growSingle ∈ TB := tb3 55 (by decide +kernel) rfl
theorem kX8_157 : Cond.methodLink RX8 157 yX3_get ∈ TB := tb3 67 (by decide +kernel) rfl
theorem kX8_160 : Cond.methodLink RX8 160 yX3_set ∈ TB := tb3 68 (by decide +kernel) rfl
theorem kX8_164 : Cond.methodLink RX8 164 yX0_totalOf ∈ TB := tb3 73 (by decide +kernel) rfl
theorem kX8_168 : Cond.methodLink RX8 168 yX0_hasValueOn ∈ TB := tb3 85 (by decide +kernel) rfl
theorem kX8_171 : Cond.methodLink RX8 171 yX0_leastPairOf ∈ TB := tb3 89 (by decide +kernel) rfl
theorem kX8_174 : Cond.methodLink RX8 174 yX0_moveToValue ∈ TB := tb3 90 (by decide +kernel) rfl
theorem kX8_178 : Cond.methodLink RX8 178 yX0_moveToTable ∈ TB := tb3 102 (by decide +kernel) rfl
theorem kX8_181 : Cond.methodLink RX8 181 yX0_moveToConstant ∈ TB := tb3 110 (by decide +kernel) rfl
theorem kX8_184 : Cond.methodLink RX8 184 yX0_constant ∈ TB := tb3 114 (by decide +kernel) rfl
theorem kX8_187 : Cond.methodLink RX8 187 yX8_isSweep ∈ TB := tb3 119 (by decide +kernel) rfl
theorem kX8_190 : Cond.methodLink RX8 190 yX5_doOne ∈ TB := tb3 122 (by decide +kernel) rfl
theorem kX8_194 : Cond.methodLink RX8 194 yX5_doTillSettled ∈ TB := tb3 186 (by decide +kernel) rfl
theorem kX8_198 : Cond.methodLink RX8 198 yX1_giveBack ∈ TB := tb3 208 (by decide +kernel) rfl
theorem kX8_202 : Cond.methodLink RX8 202 yX1_size ∈ TB := tb3 216 (by decide +kernel) rfl
theorem kX8_205 : Cond.methodLink RX8 205 yX4_goThrough ∈ TB := tb3 224 (by decide +kernel) rfl
theorem kX8_209 : Cond.methodLink RX8 209 yX4_hasFound ∈ TB := tb4 14 (by decide +kernel) rfl
theorem kX8_213 : Cond.methodLink RX8 213 yX4_leastTotal ∈ TB := tb4 18 (by decide +kernel) rfl
theorem kX8_216 : Cond.methodLink RX8 216 yX4_waysOfLeast ∈ TB := tb4 22 (by decide +kernel) rfl
theorem kX8_219 : Cond.methodLink RX8 219 yX4_firstValueOf ∈ TB := tb4 26 (by decide +kernel) rfl
theorem kX8_222 : Cond.methodLink RX8 222 yX4_choicesBelowTop ∈ TB := tb4 34 (by decide +kernel) rfl
theorem kX8_225 : Cond.methodLink RX8 225 yX4_hasSecond ∈ TB := tb4 38 (by decide +kernel) rfl
theorem kX8_228 : Cond.methodLink RX8 228 yX4_secondTotal ∈ TB := tb4 42 (by decide +kernel) rfl
theorem kX8_231 : Cond.methodLink RX8 231 yX4_commonValues ∈ TB := tb4 50 (by decide +kernel) rfl
theorem kX8_234 : Cond.methodLink RX8 234 yX7_countTries ∈ TB := tb4 66 (by decide +kernel) rfl
theorem kX8_238 : Cond.methodLink RX8 238 yX0_tables ∈ TB := tb4 98 (by decide +kernel) rfl
theorem kX8_241 : Cond.methodLink RX8 241 yX0_top ∈ TB := tb4 99 (by decide +kernel) rfl
theorem kX8_244 : Cond.methodLink RX8 244 yX0_shutInAll ∈ TB := tb4 100 (by decide +kernel) rfl
theorem kX9_7 : Cond.fieldLink RX9 7 (TX9 1).1 (TX9 1).2.1 (TX9 1).2.2.1 ∈ TB := tb4 122 (by decide +kernel) rfl
theorem kX9_13 : Cond.fieldLink RX9 13 (TX9 3).1 (TX9 3).2.1 (TX9 3).2.2.1 ∈ TB := tb4 124 (by decide +kernel) rfl
theorem kX9_16 : Cond.fieldLink RX9 16 (TX9 5).1 (TX9 5).2.1 (TX9 5).2.2.1 ∈ TB := tb4 126 (by decide +kernel) rfl
theorem kX9_19 : Cond.fieldLink RX9 19 (TX9 6).1 (TX9 6).2.1 (TX9 6).2.2.1 ∈ TB := tb4 127 (by decide +kernel) rfl
theorem kX9_22 : Cond.fieldLink RX9 22 (TX9 8).1 (TX9 8).2.1 (TX9 8).2.2.1 ∈ TB := tb4 129 (by decide +kernel) rfl
theorem kX9_25 : Cond.fieldLink RX9 25 (TX9 9).1 (TX9 9).2.1 (TX9 9).2.2.1 ∈ TB := tb4 130 (by decide +kernel) rfl
theorem kX9_28 : Cond.fieldLink RX9 28 (TX9 10).1 (TX9 10).2.1 (TX9 10).2.2.1 ∈ TB := tb4 131 (by decide +kernel) rfl
theorem kX9_31 : Cond.fieldLink RX9 31 (TX9 12).1 (TX9 12).2.1 (TX9 12).2.2.1 ∈ TB := tb4 133 (by decide +kernel) rfl
theorem kX9_34 : Cond.fieldLink RX9 34 (TX9 14).1 (TX9 14).2.1 (TX9 14).2.2.1 ∈ TB := tb4 135 (by decide +kernel) rfl
theorem kX9_37 : Cond.fieldLink RX9 37 (TX9 16).1 (TX9 16).2.1 (TX9 16).2.2.1 ∈ TB := tb4 137 (by decide +kernel) rfl
theorem kX9_40 : Cond.fieldLink RX9 40 (TX9 17).1 (TX9 17).2.1 (TX9 17).2.2.1 ∈ TB := tb4 138 (by decide +kernel) rfl
theorem kX9_43 : Cond.fieldLink RX9 43 (TX9 19).1 (TX9 19).2.1 (TX9 19).2.2.1 ∈ TB := tb4 140 (by decide +kernel) rfl
theorem kX9_46 : Cond.fieldLink RX9 46 (TX9 22).1 (TX9 22).2.1 (TX9 22).2.2.1 ∈ TB := tb4 143 (by decide +kernel) rfl
theorem kX9_49 : Cond.fieldLink RX9 49 (TX9 23).1 (TX9 23).2.1 (TX9 23).2.2.1 ∈ TB := tb4 144 (by decide +kernel) rfl
theorem kX9_52 : Cond.fieldLink RX9 52 (TX9 24).1 (TX9 24).2.1 (TX9 24).2.2.1 ∈ TB := tb4 145 (by decide +kernel) rfl
theorem kX9_55 : Cond.fieldLink RX9 55 (TX9 25).1 (TX9 25).2.1 (TX9 25).2.2.1 ∈ TB := tb4 146 (by decide +kernel) rfl
theorem kX9_58 : Cond.fieldLink RX9 58 (TX9 2).1 (TX9 2).2.1 (TX9 2).2.2.1 ∈ TB := tb4 123 (by decide +kernel) rfl
theorem kX9_62 : Cond.fieldLink RX9 62 (TX9 7).1 (TX9 7).2.1 (TX9 7).2.2.1 ∈ TB := tb4 128 (by decide +kernel) rfl
theorem kX9_65 : Cond.fieldLink RX9 65 (TX9 4).1 (TX9 4).2.1 (TX9 4).2.2.1 ∈ TB := tb4 125 (by decide +kernel) rfl
theorem kX9_68 : Cond.methodLink RX9 68 yX9_begins ∈ TB := tb4 117 (by decide +kernel) rfl
theorem kX9_72 : Cond.fieldLink RX9 72 (TX9 0).1 (TX9 0).2.1 (TX9 0).2.2.1 ∈ TB := tb4 121 (by decide +kernel) rfl
theorem kX9_75 : Cond.fieldLink RX9 75 (TX9 20).1 (TX9 20).2.1 (TX9 20).2.2.1 ∈ TB := tb4 141 (by decide +kernel) rfl
theorem kX9_78 : Cond.methodLink RX9 78 yX9_letterAt ∈ TB := tb4 239 (by decide +kernel) rfl
theorem kX9_82 : Cond.fieldLink RX9 82 (TX9 21).1 (TX9 21).2.1 (TX9 21).2.2.1 ∈ TB := tb4 142 (by decide +kernel) rfl
theorem kX9_85 : Cond.methodLink RX9 85 yX9_isIn ∈ TB := tb5 3 (by decide +kernel) rfl
theorem kX9_89 : Cond.methodLink RX9 89 yX9_number ∈ TB := tb4 235 (by decide +kernel) rfl
theorem kX9_92 : Cond.fieldLink RX9 92 (TX9 13).1 (TX9 13).2.1 (TX9 13).2.2.1 ∈ TB := tb4 134 (by decide +kernel) rfl
theorem kX9_95 : Cond.methodLink RX9 95 yX9_more ∈ TB := tb5 14 (by decide +kernel) rfl
theorem kX9_99 : Cond.fieldLink RX9 99 (TX9 15).1 (TX9 15).2.1 (TX9 15).2.2.1 ∈ TB := tb4 136 (by decide +kernel) rfl
theorem kX9_102 : Cond.fieldLink RX9 102 (TX9 18).1 (TX9 18).2.1 (TX9 18).2.2.1 ∈ TB := tb4 139 (by decide +kernel) rfl
theorem kX9_105 : Cond.methodLink RX9 105 yX9_readsName ∈ TB := tb5 6 (by decide +kernel) rfl
theorem kX9_109 : Cond.methodLink RX9 109 yX9_readsSingle ∈ TB := tb5 10 (by decide +kernel) rfl
theorem kX9_112 : Cond.methodLink RX9 112 yX9_readsTable ∈ TB := tb5 18 (by decide +kernel) rfl
theorem kX9_115 : Cond.methodLink RX9 115 yX9_readsPair ∈ TB := tb5 22 (by decide +kernel) rfl
theorem kX9_118 : Cond.methodLink RX9 118 yX9_readsItem ∈ TB := tb4 231 (by decide +kernel) rfl
theorem kX9_121 : Cond.methodLink RX9 121 yX9_reads ∈ TB := tb4 227 (by decide +kernel) rfl
theorem kX9_125 : Cond.methodLink RX9 125 yX9_sum ∈ TB := tb5 30 (by decide +kernel) rfl
theorem kX9_129 : Cond.fieldLink RX9 129 (TX9 11).1 (TX9 11).2.1 (TX9 11).2.2.1 ∈ TB := tb4 132 (by decide +kernel) rfl
theorem kX9_132 : Cond.methodLink RX9 132 yX9_isName ∈ TB := tb5 38 (by decide +kernel) rfl
theorem kX9_135 : Cond.methodLink RX9 135 yX9_leastSingle ∈ TB := tb5 42 (by decide +kernel) rfl
theorem kX9_138 : Cond.methodLink RX9 138 yX9_isShut ∈ TB := tb5 46 (by decide +kernel) rfl
theorem kX9_141 : Cond.methodLink RX9 141 yX9_isValue ∈ TB := tb5 54 (by decide +kernel) rfl
theorem kX9_144 : Cond.methodLink RX9 144 yX9_isTable ∈ TB := tb5 62 (by decide +kernel) rfl
theorem kX9_147 : Cond.methodLink RX9 147 yX9_nameOf ∈ TB := tb5 66 (by decide +kernel) rfl
theorem kX9_150 : Cond.methodLink RX9 150 yX9_pairAt ∈ TB := tb5 70 (by decide +kernel) rfl
theorem kX9_154 : Cond.methodLink RX9 154 yX9_keeps ∈ TB := tb5 85 (by decide +kernel) rfl
theorem kX9_157 : Cond.methodLink RX9 157 yX9_less ∈ TB := tb5 109 (by decide +kernel) rfl
theorem kX9_160 : Cond.methodLink RX9 160 yX9_isMoved ∈ TB := tb5 97 (by decide +kernel) rfl
theorem kX9_164 : Cond.methodLink RX9 164 yX9_leastPair ∈ TB := tb5 101 (by decide +kernel) rfl
theorem kX9_168 : Cond.methodLink RX9 168 yX9_projects ∈ TB := tb5 105 (by decide +kernel) rfl
theorem kX9_171 : Cond.methodLink RX9 171 yX9_extendsBy ∈ TB := tb5 117 (by decide +kernel) rfl
theorem kX9_174 : Cond.methodLink RX9 174 yX9_raises ∈ TB := tb5 125 (by decide +kernel) rfl
theorem kX9_178 : Cond.methodLink RX9 178 yX9_shuts ∈ TB := tb5 141 (by decide +kernel) rfl
theorem kX9_182 : Cond.methodLink RX9 182 yX9_arcs ∈ TB := tb5 137 (by decide +kernel) rfl
theorem kX9_185 : Cond.methodLink RX9 185 yX9_directs ∈ TB := tb5 145 (by decide +kernel) rfl
theorem kX9_188 : Cond.methodLink RX9 188 yX9_nodes ∈ TB := tb5 149 (by decide +kernel) rfl
theorem kX9_191 : Cond.methodLink RX9 191 yX9_sweeps ∈ TB := tb5 133 (by decide +kernel) rfl
theorem kX9_194 : Cond.methodLink RX9 194 yX9_settles ∈ TB := tb5 157 (by decide +kernel) rfl
theorem kX9_197 : Cond.methodLink RX9 197 yX9_totalOf ∈ TB := tb5 169 (by decide +kernel) rfl
theorem kX9_200 : Cond.fieldLink RX9 200 (TX9 26).1 (TX9 26).2.1 (TX9 26).2.2.1 ∈ TB := tb4 147 (by decide +kernel) rfl
theorem kX9_203 : Cond.fieldLink RX9 203 (TX9 28).1 (TX9 28).2.1 (TX9 28).2.2.1 ∈ TB := tb4 149 (by decide +kernel) rfl
theorem kX9_206 : Cond.fieldLink RX9 206 (TX9 27).1 (TX9 27).2.1 (TX9 27).2.2.1 ∈ TB := tb4 148 (by decide +kernel) rfl
theorem kX9_209 : Cond.fieldLink RX9 209 (TX9 30).1 (TX9 30).2.1 (TX9 30).2.2.1 ∈ TB := tb4 151 (by decide +kernel) rfl
theorem kX9_212 : Cond.fieldLink RX9 212 (TX9 29).1 (TX9 29).2.1 (TX9 29).2.2.1 ∈ TB := tb4 150 (by decide +kernel) rfl
theorem kX9_215 : Cond.methodLink RX9 215 yX9_choices ∈ TB := tb5 181 (by decide +kernel) rfl
theorem kX9_218 : Cond.methodLink RX9 218 yX9_takes ∈ TB := tb5 185 (by decide +kernel) rfl
theorem kX9_221 : Cond.methodLink RX9 221 yX9_meets ∈ TB := tb5 189 (by decide +kernel) rfl
theorem kX9_224 : Cond.methodLink RX9 224 yX9_looks ∈ TB := tb5 177 (by decide +kernel) rfl
theorem kX9_227 : Cond.methodLink RX9 227 yX9_least ∈ TB := tb5 205 (by decide +kernel) rfl
theorem kX9_230 : Cond.methodLink RX9 230 yX9_pairsWith ∈ TB := tb5 221 (by decide +kernel) rfl
theorem kX9_233 : Cond.methodLink RX9 233 yX9_lowOf ∈ TB := tb5 217 (by decide +kernel) rfl
theorem kL_9 : Cond.methodLink RL 9 yX8_init ∈ TB := tb1 19 (by decide +kernel) rfl
theorem kL_12 : Cond.methodLink RL 12 yX9_init ∈ TB := tb4 113 (by decide +kernel) rfl
theorem kL_13 : Cond.methodLink RL 13 yX8_write ∈ TB := tb2 169 (by decide +kernel) rfl
theorem kL_17 : Cond.methodLink RL 17 yX9_write ∈ TB := tb4 215 (by decide +kernel) rfl
theorem kL_18 : Cond.methodLink RL 18 yX8_wipe ∈ TB := tb2 174 (by decide +kernel) rfl
theorem kL_22 : Cond.methodLink RL 22 yX9_wipe ∈ TB := tb4 219 (by decide +kernel) rfl
theorem kL_23 : Cond.methodLink RL 23 yX8_fault ∈ TB := tb2 178 (by decide +kernel) rfl
theorem kL_26 : Cond.methodLink RL 26 yX9_fault ∈ TB := tb4 223 (by decide +kernel) rfl
theorem kL_27 : Cond.methodLink RL 27 yX8_lay ∈ TB := tb2 182 (by decide +kernel) rfl
theorem kL_30 : Cond.methodLink RL 30 yX9_lay ∈ TB := tb5 26 (by decide +kernel) rfl
theorem kL_31 : Cond.methodLink RL 31 yX8_name ∈ TB := tb2 204 (by decide +kernel) rfl
theorem kL_35 : Cond.methodLink RL 35 yX9_name ∈ TB := tb5 34 (by decide +kernel) rfl
theorem kL_36 : Cond.methodLink RL 36 yX8_single ∈ TB := tb2 238 (by decide +kernel) rfl
theorem kL_39 : Cond.methodLink RL 39 yX9_single ∈ TB := tb5 50 (by decide +kernel) rfl
theorem kL_40 : Cond.methodLink RL 40 yX8_table ∈ TB := tb3 4 (by decide +kernel) rfl
theorem kL_43 : Cond.methodLink RL 43 yX9_table ∈ TB := tb5 58 (by decide +kernel) rfl
theorem kL_44 : Cond.methodLink RL 44 yX8_pair ∈ TB := tb3 33 (by decide +kernel) rfl
theorem kL_48 : Cond.methodLink RL 48 yX9_pair ∈ TB := tb5 73 (by decide +kernel) rfl
theorem kL_49 : Cond.methodLink RL 49 yX8_grow ∈ TB := tb3 39 (by decide +kernel) rfl
theorem kL_52 : Cond.methodLink RL 52 yX9_grow ∈ TB := tb5 81 (by decide +kernel) rfl
theorem kL_53 : Cond.methodLink RL 53 yX8_choose ∈ TB := tb3 63 (by decide +kernel) rfl
theorem kL_56 : Cond.methodLink RL 56 yX9_choose ∈ TB := tb5 89 (by decide +kernel) rfl
theorem kL_57 : Cond.methodLink RL 57 yX8_total ∈ TB := tb3 69 (by decide +kernel) rfl
theorem kL_60 : Cond.methodLink RL 60 yX9_total ∈ TB := tb5 165 (by decide +kernel) rfl
theorem kL_61 : Cond.methodLink RL 61 yX8_project ∈ TB := tb3 81 (by decide +kernel) rfl
theorem kL_65 : Cond.methodLink RL 65 yX9_project ∈ TB := tb5 93 (by decide +kernel) rfl
theorem kL_66 : Cond.methodLink RL 66 yX8_extend ∈ TB := tb3 98 (by decide +kernel) rfl
theorem kL_69 : Cond.methodLink RL 69 yX9_extend ∈ TB := tb5 113 (by decide +kernel) rfl
theorem kL_70 : Cond.methodLink RL 70 yX8_raise ∈ TB := tb3 106 (by decide +kernel) rfl
theorem kL_73 : Cond.methodLink RL 73 yX9_raise ∈ TB := tb5 121 (by decide +kernel) rfl
theorem kL_74 : Cond.methodLink RL 74 yX8_sweep ∈ TB := tb3 115 (by decide +kernel) rfl
theorem kL_77 : Cond.methodLink RL 77 yX9_sweep ∈ TB := tb5 129 (by decide +kernel) rfl
theorem kL_78 : Cond.methodLink RL 78 yX8_settle ∈ TB := tb3 182 (by decide +kernel) rfl
theorem kL_81 : Cond.methodLink RL 81 yX9_settle ∈ TB := tb5 153 (by decide +kernel) rfl
theorem kL_82 : Cond.methodLink RL 82 yX8_bound ∈ TB := tb3 200 (by decide +kernel) rfl
theorem kL_85 : Cond.methodLink RL 85 yX9_bound ∈ TB := tb5 161 (by decide +kernel) rfl
theorem kL_86 : Cond.methodLink RL 86 yX8_undo ∈ TB := tb3 204 (by decide +kernel) rfl
theorem kL_89 : Cond.methodLink RL 89 yX9_undo ∈ TB := tb5 77 (by decide +kernel) rfl
theorem kL_90 : Cond.methodLink RL 90 yX8_best ∈ TB := tb3 220 (by decide +kernel) rfl
theorem kL_93 : Cond.methodLink RL 93 yX9_best ∈ TB := tb5 173 (by decide +kernel) rfl
theorem kL_94 : Cond.methodLink RL 94 yX8_next ∈ TB := tb4 30 (by decide +kernel) rfl
theorem kL_97 : Cond.methodLink RL 97 yX9_next ∈ TB := tb5 193 (by decide +kernel) rfl
theorem kL_98 : Cond.methodLink RL 98 yX8_backbone ∈ TB := tb4 46 (by decide +kernel) rfl
theorem kL_101 : Cond.methodLink RL 101 yX9_backbone ∈ TB := tb5 197 (by decide +kernel) rfl
theorem kL_102 : Cond.methodLink RL 102 yX8_with ∈ TB := tb4 54 (by decide +kernel) rfl
theorem kL_105 : Cond.methodLink RL 105 yX9_with ∈ TB := tb5 201 (by decide +kernel) rfl
theorem kL_106 : Cond.methodLink RL 106 yX8_without ∈ TB := tb4 58 (by decide +kernel) rfl
theorem kL_109 : Cond.methodLink RL 109 yX9_without ∈ TB := tb5 209 (by decide +kernel) rfl
theorem kL_110 : Cond.methodLink RL 110 yX8_tries ∈ TB := tb4 62 (by decide +kernel) rfl
theorem kL_113 : Cond.methodLink RL 113 yX9_tries ∈ TB := tb5 213 (by decide +kernel) rfl
theorem kL_114 : Cond.methodLink RL 114 yX8_count ∈ TB := tb4 94 (by decide +kernel) rfl
theorem kL_117 : Cond.methodLink RL 117 yX9_count ∈ TB := tb5 225 (by decide +kernel) rfl
theorem kJ6_265 : Cond.constant RJ6 265 (1431655765 : Int32) ∈ TB := tb4 108 (by decide +kernel) rfl
theorem kJ6_266 : Cond.constant RJ6 266 (858993459 : Int32) ∈ TB := tb4 109 (by decide +kernel) rfl
theorem kJ6_267 : Cond.constant RJ6 267 (252645135 : Int32) ∈ TB := tb4 110 (by decide +kernel) rfl
