/-! THE CLAIM OUT OF ONE WALK OF THE LAW'S BODY. Your part is whole_start (and what it stands on); all else here is the same for every law, but numbers. -/
def R_law : String := "SoftCostsLaw"
def lw_P (b : Addr) (xs : List Int32) (args : Array Value) (s : State) : Prop := args = #[.ref b] ∧ s.IntsAt b xs ∧ xs.length ≤ 2560 ∧ (Jvm.Cond.and given_1 narrow_1).before args s = true
def lw_Q (_ : Array Value) (s : State) (o : Outcome) (t : State) : Prop := o = .returned (some (.int 1)) ∧ Framed s o t [] 600000 7302250
def lw_Z (below : List Frame) (a : Array Value) (s : State) : State → Prop := fun t => ∃ o, t.status = .running ∧ Ended t below o ∧ lw_Q a s o t
/-- the law's own end, with 1 on the stack, nothing written that was there before, its room as the claim has it -/
theorem lw_ret {p : Program} {l : Launch} {e : Env} {s : State} {m : MethodId} {below : List Frame} {meth : Method} {c : Code} {b : Nat} (hx : p.tables.exec = Jvm.exec) (hb : c.code = code) (hr : meth.sig.returnType = ret) (hlocks : meth.locks = false) {pc : Nat} {H : Heap} {ls : Array Slot} (hdg : decode code pc = .ok (.ireturn, 1)) : W p l e room_1 s m #[Value.ref b] below meth c H [] 600000 7302250 (lw_Z below #[Value.ref b] s) (F0 m pc ls [.int 1]) := by
  intro T hT X
  obtain ⟨fs, hret, hrun, hended, hW, hframe⟩ := X.leave (v := some (.int 1)) (hlocks := hlocks) (fun h => by rw [hr] at h; cases h)
  have hmeth' : T.vm.method? m = some meth := X.method'
  refine ⟨T.setFrames fs, ?_, .returned (some (.int 1)), hrun, hended, rfl, ⟨_, rfl⟩, hW, hframe⟩
  jvm_step X.here [X.here.top, hx, hb, hdg, hmeth', hr, ret, narrow_b1]
  (try refine ⟨rfl, ?_⟩); (try refine ⟨rfl, ?_⟩)
  first | (intro acts; rw [hret _ acts rfl rfl rfl]) | rw [hret _ _ rfl rfl rfl]
  exact Steps.refl _
/-- what holds at the law's entry: the machine, the code, the tables' words (any of lw_tbl by 'hts w (by decide +kernel)'), the script of L ints xs at the cell b, what the Statement gives of the start (any of its parts by flat_of_before) -/
def lw_At (p : Program) (s : State) (m : MethodId) (meth : Method) (c : Code) (b L : Nat) (xs : Nat → Int32) : Prop :=
  p.tables.exec = Jvm.exec ∧ c.code = code ∧ meth.sig.returnType = ret ∧ c.maxLocals = 4 ∧ s.vm.findClass R_law = some m.cls ∧ (∀ w ∈ lw_tbl, w.before #[Value.ref b] s = true) ∧ va_X b L xs s s.heap ∧ b < s.heap.size ∧ meth.locks = false ∧ (Jvm.Cond.and given_1 narrow_1).before #[Value.ref b] s = true
def Q_0 (Inv : Mem → Prop) : Prop := ∀ (μ : Mem) (a1 : Int32), Inv μ → ∃ (r : Int32) (μ1 μ2 : Mem), fX8_write LL 0 a1 μ = some (r, μ1) ∧ fX9_write LL 56 a1 μ1 = some (r, μ2) ∧ Inv μ2
def Q_1 (Inv : Mem → Prop) : Prop := ∀ (μ : Mem), Inv μ → ∃ (r : Int32) (μ1 μ2 : Mem), fX8_wipe LL 0  μ = some (r, μ1) ∧ fX9_wipe LL 56  μ1 = some (r, μ2) ∧ Inv μ2
def Q_2 (Inv : Mem → Prop) : Prop := ∀ (μ : Mem), Inv μ → ∃ (r : Int32) (μ1 μ2 : Mem), fX8_fault LL 0  μ = some (r, μ1) ∧ fX9_fault LL 56  μ1 = some (r, μ2) ∧ Inv μ2
def Q_3 (Inv : Mem → Prop) : Prop := ∀ (μ : Mem), Inv μ → ∃ (r : Int32) (μ1 μ2 : Mem), fX8_lay LL 0  μ = some (r, μ1) ∧ fX9_lay LL 56  μ1 = some (r, μ2) ∧ Inv μ2
def Q_4 (Inv : Mem → Prop) : Prop := ∀ (μ : Mem) (a1 a2 : Int32), Inv μ → ∃ (r : Int32) (μ1 μ2 : Mem), fX8_name LL 0 a1 a2 μ = some (r, μ1) ∧ fX9_name LL 56 a1 a2 μ1 = some (r, μ2) ∧ Inv μ2
def Q_5 (Inv : Mem → Prop) : Prop := ∀ (μ : Mem) (a1 a2 : Int32), Inv μ → ∃ (r : Int32) (μ1 μ2 : Mem), fX8_single LL 0 a1 a2 μ = some (r, μ1) ∧ fX9_single LL 56 a1 a2 μ1 = some (r, μ2) ∧ Inv μ2
def Q_6 (Inv : Mem → Prop) : Prop := ∀ (μ : Mem) (a1 a2 : Int32), Inv μ → ∃ (r : Int32) (μ1 μ2 : Mem), fX8_table LL 0 a1 a2 μ = some (r, μ1) ∧ fX9_table LL 56 a1 a2 μ1 = some (r, μ2) ∧ Inv μ2
def Q_7 (Inv : Mem → Prop) : Prop := ∀ (μ : Mem) (a1 a2 a3 : Int32), Inv μ → ∃ (r : Int32) (μ1 μ2 : Mem), fX8_pair LL 0 a1 a2 a3 μ = some (r, μ1) ∧ fX9_pair LL 56 a1 a2 a3 μ1 = some (r, μ2) ∧ Inv μ2
def Q_8 (Inv : Mem → Prop) : Prop := ∀ (μ : Mem) (a1 a2 a3 : Int32), Inv μ → ∃ (r : Int32) (μ1 μ2 : Mem), fX8_grow LL 0 a1 a2 a3 μ = some (r, μ1) ∧ fX9_grow LL 56 a1 a2 a3 μ1 = some (r, μ2) ∧ Inv μ2
def Q_9 (Inv : Mem → Prop) : Prop := ∀ (μ : Mem) (a1 a2 : Int32), Inv μ → ∃ (r : Int32) (μ1 μ2 : Mem), fX8_choose LL 0 a1 a2 μ = some (r, μ1) ∧ fX9_choose LL 56 a1 a2 μ1 = some (r, μ2) ∧ Inv μ2
def Q_10 (Inv : Mem → Prop) : Prop := ∀ (μ : Mem), Inv μ → ∃ (r : Int32) (μ1 μ2 : Mem), fX8_total LL 0  μ = some (r, μ1) ∧ fX9_total LL 56  μ1 = some (r, μ2) ∧ Inv μ2
def Q_11 (Inv : Mem → Prop) : Prop := ∀ (μ : Mem) (a1 a2 a3 a4 : Int32), Inv μ → ∃ (r : Int32) (μ1 μ2 : Mem), fX8_project LL 0 a1 a2 a3 a4 μ = some (r, μ1) ∧ fX9_project LL 56 a1 a2 a3 a4 μ1 = some (r, μ2) ∧ Inv μ2
def Q_12 (Inv : Mem → Prop) : Prop := ∀ (μ : Mem) (a1 a2 a3 a4 : Int32), Inv μ → ∃ (r : Int32) (μ1 μ2 : Mem), fX8_extend LL 0 a1 a2 a3 a4 μ = some (r, μ1) ∧ fX9_extend LL 56 a1 a2 a3 a4 μ1 = some (r, μ2) ∧ Inv μ2
def Q_13 (Inv : Mem → Prop) : Prop := ∀ (μ : Mem) (a1 a2 : Int32), Inv μ → ∃ (r : Int32) (μ1 μ2 : Mem), fX8_raise LL 0 a1 a2 μ = some (r, μ1) ∧ fX9_raise LL 56 a1 a2 μ1 = some (r, μ2) ∧ Inv μ2
def Q_14 (Inv : Mem → Prop) : Prop := ∀ (μ : Mem) (a1 a2 : Int32), Inv μ → ∃ (r : Int32) (μ1 μ2 : Mem), fX8_sweep LL 0 a1 a2 μ = some (r, μ1) ∧ fX9_sweep LL 56 a1 a2 μ1 = some (r, μ2) ∧ Inv μ2
def Q_15 (Inv : Mem → Prop) : Prop := ∀ (μ : Mem) (a1 : Int32), Inv μ → ∃ (r : Int32) (μ1 μ2 : Mem), fX8_settle LL 0 a1 μ = some (r, μ1) ∧ fX9_settle LL 56 a1 μ1 = some (r, μ2) ∧ Inv μ2
def Q_16 (Inv : Mem → Prop) : Prop := ∀ (μ : Mem) (a1 : Int32), Inv μ → ∃ (r : Int32) (μ1 μ2 : Mem), fX8_bound LL 0 a1 μ = some (r, μ1) ∧ fX9_bound LL 56 a1 μ1 = some (r, μ2) ∧ Inv μ2
def Q_17 (Inv : Mem → Prop) : Prop := ∀ (μ : Mem), Inv μ → ∃ (r : Int32) (μ1 μ2 : Mem), fX8_undo LL 0  μ = some (r, μ1) ∧ fX9_undo LL 56  μ1 = some (r, μ2) ∧ Inv μ2
def Q_18 (Inv : Mem → Prop) : Prop := ∀ (μ : Mem) (a1 : Int32), Inv μ → ∃ (r : Int32) (μ1 μ2 : Mem), fX8_best LL 0 a1 μ = some (r, μ1) ∧ fX9_best LL 56 a1 μ1 = some (r, μ2) ∧ Inv μ2
def Q_19 (Inv : Mem → Prop) : Prop := ∀ (μ : Mem) (a1 : Int32), Inv μ → ∃ (r : Int32) (μ1 μ2 : Mem), fX8_next LL 0 a1 μ = some (r, μ1) ∧ fX9_next LL 56 a1 μ1 = some (r, μ2) ∧ Inv μ2
def Q_20 (Inv : Mem → Prop) : Prop := ∀ (μ : Mem), Inv μ → ∃ (r : Int32) (μ1 μ2 : Mem), fX8_backbone LL 0  μ = some (r, μ1) ∧ fX9_backbone LL 56  μ1 = some (r, μ2) ∧ Inv μ2
def Q_21 (Inv : Mem → Prop) : Prop := ∀ (μ : Mem) (a1 a2 : Int32), Inv μ → ∃ (r : Int32) (μ1 μ2 : Mem), fX8_with LL 0 a1 a2 μ = some (r, μ1) ∧ fX9_with LL 56 a1 a2 μ1 = some (r, μ2) ∧ Inv μ2
def Q_22 (Inv : Mem → Prop) : Prop := ∀ (μ : Mem) (a1 : Int32), Inv μ → ∃ (r : Int32) (μ1 μ2 : Mem), fX8_without LL 0 a1 μ = some (r, μ1) ∧ fX9_without LL 56 a1 μ1 = some (r, μ2) ∧ Inv μ2
def Q_23 (Inv : Mem → Prop) : Prop := ∀ (μ : Mem), Inv μ → ∃ (r : Int32) (μ1 μ2 : Mem), fX8_tries LL 0  μ = some (r, μ1) ∧ fX9_tries LL 56  μ1 = some (r, μ2) ∧ Inv μ2
def Q_24 (Inv : Mem → Prop) : Prop := ∀ (μ : Mem) (a1 : Int32), Inv μ → ∃ (r : Int32) (μ1 μ2 : Mem), fX8_count LL 0 a1 μ = some (r, μ1) ∧ fX9_count LL 56 a1 μ1 = some (r, μ2) ∧ Inv μ2
def AllQ (Inv : Mem → Prop) : Prop := Q_0 Inv ∧ Q_1 Inv ∧ Q_2 Inv ∧ Q_3 Inv ∧ Q_4 Inv ∧ Q_5 Inv ∧ Q_6 Inv ∧ Q_7 Inv ∧ Q_8 Inv ∧ Q_9 Inv ∧ Q_10 Inv ∧ Q_11 Inv ∧ Q_12 Inv ∧ Q_13 Inv ∧ Q_14 Inv ∧ Q_15 Inv ∧ Q_16 Inv ∧ Q_17 Inv ∧ Q_18 Inv ∧ Q_19 Inv ∧ Q_20 Inv ∧ Q_21 Inv ∧ Q_22 Inv ∧ Q_23 Inv ∧ Q_24 Inv
theorem l_in {j k Ls : Nat} (h : j + k < Ls) (hL : Ls ≤ 2560) {z : Int32} (hk : nI k = z) : vp_in (nI j + z) Ls := by
  rw [← hk, nI_add]
  exact vp_in_nI h (by omega)
abbrev sx (xs : Nat → Int32) (j : Nat) (k : Int32) : Int32 := xs (nI j + k).toNatClampNeg
section LAWW
variable {p : Program} {l : Launch} {e : Env} {R : Room} {s : State} {m : MethodId} {args : Array Value} {below : List Frame} {meth : Method} {c : Code} {H : Heap} {locs : List Loc} {cells slots : Nat} {Q : State → Prop}
variable {cc : ByteArray} {pc : Nat} {ls : Array Slot} {rest st : List Value}
variable {D : va_G} {cI cR : ClassId} {n : Nat} {K L ad : Nat → Nat} {μ : Mem} {own C : String} {T : u_T} {ty : Nat → FieldType} {N kd idx nL o j d : Nat}
theorem l_call {y : MethodName} {cy : ByteArray} {my : Nat} {ry : Option FieldType} {rm : Room} {As : List Value} {f : Mem → Option (Int32 × Mem)} {r : Int32} {μ1 : Mem} (S : CallFix p m c cc nL s args TB own) (hG : gok D cI cR n K L ad s) (hP : wo D cI cR n K L ad μ H) (hS : va_S (Ag n ad) s.heap H locs) (hM : mth y cy my ry C As.length) (hlk : Cond.methodLink own idx y ∈ TB) (hc : cls kd C T N ty) (ho : isk n K o kd)
    (hC : Ci l y cy my ry rm D cI cR n K L ad (.ref (ad o) :: As) f) (hrm : rm.cells = 0 ∧ rm.slots = 0) (hR : rm.frames + 1 ≤ R.frames ∧ 8 + (my + 11) + rm.locals ≤ R.locals) (hf : f μ = some (r, μ1)) (hls : ls.size = nL) (hst : As.reverse ++ .ref (ad o) :: rest = st) (hro : (rest.map fun v => v.category).sum ≤ 8) (hcs : cells ≤ R.cells ∧ slots ≤ R.slots) (hdg : decode cc pc = .ok (.invokevirtual idx, 3))
    (kk : ∀ (H1 : Heap) (locs1 : List Loc), wo D cI cR n K L ad μ1 H1 → va_S (Ag n ad) s.heap H1 locs1 → W p l e R s m args below meth c H1 locs1 cells slots Q (F0 m (pc + 3) ls (.int r :: rest))) : W p l e R s m args below meth c H locs cells slots Q (F0 m pc ls st) :=
  r_vcalli (x := (r, μ1)) (A := fun r μ => some (r, μ)) S hG hP hS hM hlk hc ho hC hrm hR (by rw [hf]; rfl) hls hst hro hcs hdg (fun r' μ' H1 locs1 h hP hS => by cases h; exact kk H1 locs1 hP hS)
end LAWW
section LAWC
variable {p : Program} {l : Launch} {e : Env} {s : State} {m : MethodId} {args : Array Value} {below : List Frame} {meth : Method} {c : Code} {H : Heap} {locs : List Loc} {cells slots : Nat} {Q : State → Prop}
variable {ls : Array Slot} {D : va_G} {cI cR : ClassId} {ad : Nat → Nat} {μ : Mem} {b Ls j : Nat} {xs : Nat → Int32} {Inv : Mem → Prop}
set_option maxHeartbeats 4000000 in
set_option maxRecDepth 100000 in
theorem law_0 (HQ : Q_0 Inv) (hI : Inv μ) (S : CallFix p m c code 4 s args TB RL) (hX : va_X b Ls xs s s.heap) (hbl : b < s.heap.size) (hbA : ¬ Ag 73 ad b) (hG : gok D cI cR 73 KK LL ad s) (hP : wo D cI cR 73 KK LL ad μ H) (hS : va_S (Ag 73 ad) s.heap H locs) (hl : lv_has ls 4 [(0, .ref b), (1, .ref (ad 0)), (2, .ref (ad 56)), (3, .int (nI j))]) (hj : j + 5 ≤ Ls) (hLs : Ls ≤ 2560) (hcs : cells ≤ room_1.cells ∧ slots ≤ room_1.slots)
    (kk : ∀ (μ2 : Mem) (H : Heap) (locs : List Loc), Inv μ2 → wo D cI cR 73 KK LL ad μ2 H → va_S (Ag 73 ad) s.heap H locs → W p l e room_1 s m args below meth c H locs cells slots Q (F0 m 823 ls [])) : W p l e room_1 s m args below meth c H locs cells slots Q (F0 m 148 ls []) := by
  have hx := S.1
  have hb := S.2.1
  obtain ⟨r, μ1, μ2, h1, h2, hI2⟩ := HQ μ (sx xs j 1) hI
  refine lv_aload_n hx hb dL_law_148 rfl (lv_at hl 1 rfl) ?_
  refine lv_aload_n hx hb dL_law_149 rfl (lv_at hl 0 rfl) ?_
  refine lv_iload_n hx hb dL_law_150 rfl (lv_at hl 3 rfl) ?_
  refine lv_iconst (v := 1) hx hb dL_law_151 (by decide) ?_
  refine lv_iadd hx hb dL_law_152 ?_
  refine va_sld hx hb hX hbl hbA hS (l_in (k := 1) (by omega) hLs rfl) dL_law_153 ?_
  refine l_call (As := [.int (sx xs j 1)]) (rest := []) S hG hP hS mX8_write kL_13 clX8 isk_0 (tX8_write _ _ _ _ _ _ _ _ isk_0 (sx xs j 1)) ⟨rfl, rfl⟩ ⟨by decide, by decide⟩ h1 hl.1 rfl (Nat.le_of_ble_eq_true rfl) hcs dL_law_154 (fun H locs hP hS => ?_)
  refine lv_aload_n hx hb dL_law_157 rfl (lv_at hl 2 rfl) ?_
  refine lv_aload_n hx hb dL_law_158 rfl (lv_at hl 0 rfl) ?_
  refine lv_iload_n hx hb dL_law_159 rfl (lv_at hl 3 rfl) ?_
  refine lv_iconst (v := 1) hx hb dL_law_160 (by decide) ?_
  refine lv_iadd hx hb dL_law_161 ?_
  refine va_sld hx hb hX hbl hbA hS (l_in (k := 1) (by omega) hLs rfl) dL_law_162 ?_
  refine l_call (As := [.int (sx xs j 1)]) (rest := [.int r]) S hG hP hS mX9_write kL_17 clX9 isk_56 (tX9_write _ _ _ _ _ _ _ _ isk_56 (sx xs j 1)) ⟨rfl, rfl⟩ ⟨by decide, by decide⟩ h2 hl.1 rfl (Nat.le_of_ble_eq_true rfl) hcs dL_law_163 (fun H locs hP hS => ?_)
  refine lv_icmp_eq (tgt := 823) hx hb dL_law_166 (by decide) (fun _ => ?_) (fun h => absurd rfl h)
  exact kk μ2 H locs hI2 hP hS
set_option maxHeartbeats 4000000 in
set_option maxRecDepth 100000 in
theorem law_1 (HQ : Q_1 Inv) (hI : Inv μ) (S : CallFix p m c code 4 s args TB RL) (hX : va_X b Ls xs s s.heap) (hbl : b < s.heap.size) (hbA : ¬ Ag 73 ad b) (hG : gok D cI cR 73 KK LL ad s) (hP : wo D cI cR 73 KK LL ad μ H) (hS : va_S (Ag 73 ad) s.heap H locs) (hl : lv_has ls 4 [(0, .ref b), (1, .ref (ad 0)), (2, .ref (ad 56)), (3, .int (nI j))]) (hj : j + 5 ≤ Ls) (hLs : Ls ≤ 2560) (hcs : cells ≤ room_1.cells ∧ slots ≤ room_1.slots)
    (kk : ∀ (μ2 : Mem) (H : Heap) (locs : List Loc), Inv μ2 → wo D cI cR 73 KK LL ad μ2 H → va_S (Ag 73 ad) s.heap H locs → W p l e room_1 s m args below meth c H locs cells slots Q (F0 m 823 ls [])) : W p l e room_1 s m args below meth c H locs cells slots Q (F0 m 171 ls []) := by
  have hx := S.1
  have hb := S.2.1
  obtain ⟨r, μ1, μ2, h1, h2, hI2⟩ := HQ μ  hI
  refine lv_aload_n hx hb dL_law_171 rfl (lv_at hl 1 rfl) ?_
  refine l_call (As := []) (rest := []) S hG hP hS mX8_wipe kL_18 clX8 isk_0 (tX8_wipe _ _ _ _ _ _ _ _ isk_0 ) ⟨rfl, rfl⟩ ⟨by decide, by decide⟩ h1 hl.1 rfl (Nat.le_of_ble_eq_true rfl) hcs dL_law_172 (fun H locs hP hS => ?_)
  refine lv_aload_n hx hb dL_law_175 rfl (lv_at hl 2 rfl) ?_
  refine l_call (As := []) (rest := [.int r]) S hG hP hS mX9_wipe kL_22 clX9 isk_56 (tX9_wipe _ _ _ _ _ _ _ _ isk_56 ) ⟨rfl, rfl⟩ ⟨by decide, by decide⟩ h2 hl.1 rfl (Nat.le_of_ble_eq_true rfl) hcs dL_law_176 (fun H locs hP hS => ?_)
  refine lv_icmp_eq (tgt := 823) hx hb dL_law_179 (by decide) (fun _ => ?_) (fun h => absurd rfl h)
  exact kk μ2 H locs hI2 hP hS
set_option maxHeartbeats 4000000 in
set_option maxRecDepth 100000 in
theorem law_2 (HQ : Q_2 Inv) (hI : Inv μ) (S : CallFix p m c code 4 s args TB RL) (hX : va_X b Ls xs s s.heap) (hbl : b < s.heap.size) (hbA : ¬ Ag 73 ad b) (hG : gok D cI cR 73 KK LL ad s) (hP : wo D cI cR 73 KK LL ad μ H) (hS : va_S (Ag 73 ad) s.heap H locs) (hl : lv_has ls 4 [(0, .ref b), (1, .ref (ad 0)), (2, .ref (ad 56)), (3, .int (nI j))]) (hj : j + 5 ≤ Ls) (hLs : Ls ≤ 2560) (hcs : cells ≤ room_1.cells ∧ slots ≤ room_1.slots)
    (kk : ∀ (μ2 : Mem) (H : Heap) (locs : List Loc), Inv μ2 → wo D cI cR 73 KK LL ad μ2 H → va_S (Ag 73 ad) s.heap H locs → W p l e room_1 s m args below meth c H locs cells slots Q (F0 m 823 ls [])) : W p l e room_1 s m args below meth c H locs cells slots Q (F0 m 184 ls []) := by
  have hx := S.1
  have hb := S.2.1
  obtain ⟨r, μ1, μ2, h1, h2, hI2⟩ := HQ μ  hI
  refine lv_aload_n hx hb dL_law_184 rfl (lv_at hl 1 rfl) ?_
  refine l_call (As := []) (rest := []) S hG hP hS mX8_fault kL_23 clX8 isk_0 (tX8_fault _ _ _ _ _ _ _ _ isk_0 ) ⟨rfl, rfl⟩ ⟨by decide, by decide⟩ h1 hl.1 rfl (Nat.le_of_ble_eq_true rfl) hcs dL_law_185 (fun H locs hP hS => ?_)
  refine lv_aload_n hx hb dL_law_188 rfl (lv_at hl 2 rfl) ?_
  refine l_call (As := []) (rest := [.int r]) S hG hP hS mX9_fault kL_26 clX9 isk_56 (tX9_fault _ _ _ _ _ _ _ _ isk_56 ) ⟨rfl, rfl⟩ ⟨by decide, by decide⟩ h2 hl.1 rfl (Nat.le_of_ble_eq_true rfl) hcs dL_law_189 (fun H locs hP hS => ?_)
  refine lv_icmp_eq (tgt := 823) hx hb dL_law_192 (by decide) (fun _ => ?_) (fun h => absurd rfl h)
  exact kk μ2 H locs hI2 hP hS
set_option maxHeartbeats 4000000 in
set_option maxRecDepth 100000 in
theorem law_3 (HQ : Q_3 Inv) (hI : Inv μ) (S : CallFix p m c code 4 s args TB RL) (hX : va_X b Ls xs s s.heap) (hbl : b < s.heap.size) (hbA : ¬ Ag 73 ad b) (hG : gok D cI cR 73 KK LL ad s) (hP : wo D cI cR 73 KK LL ad μ H) (hS : va_S (Ag 73 ad) s.heap H locs) (hl : lv_has ls 4 [(0, .ref b), (1, .ref (ad 0)), (2, .ref (ad 56)), (3, .int (nI j))]) (hj : j + 5 ≤ Ls) (hLs : Ls ≤ 2560) (hcs : cells ≤ room_1.cells ∧ slots ≤ room_1.slots)
    (kk : ∀ (μ2 : Mem) (H : Heap) (locs : List Loc), Inv μ2 → wo D cI cR 73 KK LL ad μ2 H → va_S (Ag 73 ad) s.heap H locs → W p l e room_1 s m args below meth c H locs cells slots Q (F0 m 823 ls [])) : W p l e room_1 s m args below meth c H locs cells slots Q (F0 m 197 ls []) := by
  have hx := S.1
  have hb := S.2.1
  obtain ⟨r, μ1, μ2, h1, h2, hI2⟩ := HQ μ  hI
  refine lv_aload_n hx hb dL_law_197 rfl (lv_at hl 1 rfl) ?_
  refine l_call (As := []) (rest := []) S hG hP hS mX8_lay kL_27 clX8 isk_0 (tX8_lay _ _ _ _ _ _ _ _ isk_0 ) ⟨rfl, rfl⟩ ⟨by decide, by decide⟩ h1 hl.1 rfl (Nat.le_of_ble_eq_true rfl) hcs dL_law_198 (fun H locs hP hS => ?_)
  refine lv_aload_n hx hb dL_law_201 rfl (lv_at hl 2 rfl) ?_
  refine l_call (As := []) (rest := [.int r]) S hG hP hS mX9_lay kL_30 clX9 isk_56 (tX9_lay _ _ _ _ _ _ _ _ isk_56 ) ⟨rfl, rfl⟩ ⟨by decide, by decide⟩ h2 hl.1 rfl (Nat.le_of_ble_eq_true rfl) hcs dL_law_202 (fun H locs hP hS => ?_)
  refine lv_icmp_eq (tgt := 823) hx hb dL_law_205 (by decide) (fun _ => ?_) (fun h => absurd rfl h)
  exact kk μ2 H locs hI2 hP hS
set_option maxHeartbeats 4000000 in
set_option maxRecDepth 100000 in
theorem law_4 (HQ : Q_4 Inv) (hI : Inv μ) (S : CallFix p m c code 4 s args TB RL) (hX : va_X b Ls xs s s.heap) (hbl : b < s.heap.size) (hbA : ¬ Ag 73 ad b) (hG : gok D cI cR 73 KK LL ad s) (hP : wo D cI cR 73 KK LL ad μ H) (hS : va_S (Ag 73 ad) s.heap H locs) (hl : lv_has ls 4 [(0, .ref b), (1, .ref (ad 0)), (2, .ref (ad 56)), (3, .int (nI j))]) (hj : j + 5 ≤ Ls) (hLs : Ls ≤ 2560) (hcs : cells ≤ room_1.cells ∧ slots ≤ room_1.slots)
    (kk : ∀ (μ2 : Mem) (H : Heap) (locs : List Loc), Inv μ2 → wo D cI cR 73 KK LL ad μ2 H → va_S (Ag 73 ad) s.heap H locs → W p l e room_1 s m args below meth c H locs cells slots Q (F0 m 823 ls [])) : W p l e room_1 s m args below meth c H locs cells slots Q (F0 m 210 ls []) := by
  have hx := S.1
  have hb := S.2.1
  obtain ⟨r, μ1, μ2, h1, h2, hI2⟩ := HQ μ (sx xs j 1) (sx xs j 2) hI
  refine lv_aload_n hx hb dL_law_210 rfl (lv_at hl 1 rfl) ?_
  refine lv_aload_n hx hb dL_law_211 rfl (lv_at hl 0 rfl) ?_
  refine lv_iload_n hx hb dL_law_212 rfl (lv_at hl 3 rfl) ?_
  refine lv_iconst (v := 1) hx hb dL_law_213 (by decide) ?_
  refine lv_iadd hx hb dL_law_214 ?_
  refine va_sld hx hb hX hbl hbA hS (l_in (k := 1) (by omega) hLs rfl) dL_law_215 ?_
  refine lv_aload_n hx hb dL_law_216 rfl (lv_at hl 0 rfl) ?_
  refine lv_iload_n hx hb dL_law_217 rfl (lv_at hl 3 rfl) ?_
  refine lv_iconst (v := 2) hx hb dL_law_218 (by decide) ?_
  refine lv_iadd hx hb dL_law_219 ?_
  refine va_sld hx hb hX hbl hbA hS (l_in (k := 2) (by omega) hLs rfl) dL_law_220 ?_
  refine l_call (As := [.int (sx xs j 1), .int (sx xs j 2)]) (rest := []) S hG hP hS mX8_name kL_31 clX8 isk_0 (tX8_name _ _ _ _ _ _ _ _ isk_0 (sx xs j 1) (sx xs j 2)) ⟨rfl, rfl⟩ ⟨by decide, by decide⟩ h1 hl.1 rfl (Nat.le_of_ble_eq_true rfl) hcs dL_law_221 (fun H locs hP hS => ?_)
  refine lv_aload_n hx hb dL_law_224 rfl (lv_at hl 2 rfl) ?_
  refine lv_aload_n hx hb dL_law_225 rfl (lv_at hl 0 rfl) ?_
  refine lv_iload_n hx hb dL_law_226 rfl (lv_at hl 3 rfl) ?_
  refine lv_iconst (v := 1) hx hb dL_law_227 (by decide) ?_
  refine lv_iadd hx hb dL_law_228 ?_
  refine va_sld hx hb hX hbl hbA hS (l_in (k := 1) (by omega) hLs rfl) dL_law_229 ?_
  refine lv_aload_n hx hb dL_law_230 rfl (lv_at hl 0 rfl) ?_
  refine lv_iload_n hx hb dL_law_231 rfl (lv_at hl 3 rfl) ?_
  refine lv_iconst (v := 2) hx hb dL_law_232 (by decide) ?_
  refine lv_iadd hx hb dL_law_233 ?_
  refine va_sld hx hb hX hbl hbA hS (l_in (k := 2) (by omega) hLs rfl) dL_law_234 ?_
  refine l_call (As := [.int (sx xs j 1), .int (sx xs j 2)]) (rest := [.int r]) S hG hP hS mX9_name kL_35 clX9 isk_56 (tX9_name _ _ _ _ _ _ _ _ isk_56 (sx xs j 1) (sx xs j 2)) ⟨rfl, rfl⟩ ⟨by decide, by decide⟩ h2 hl.1 rfl (Nat.le_of_ble_eq_true rfl) hcs dL_law_235 (fun H locs hP hS => ?_)
  refine lv_icmp_eq (tgt := 823) hx hb dL_law_238 (by decide) (fun _ => ?_) (fun h => absurd rfl h)
  exact kk μ2 H locs hI2 hP hS
set_option maxHeartbeats 4000000 in
set_option maxRecDepth 100000 in
theorem law_5 (HQ : Q_5 Inv) (hI : Inv μ) (S : CallFix p m c code 4 s args TB RL) (hX : va_X b Ls xs s s.heap) (hbl : b < s.heap.size) (hbA : ¬ Ag 73 ad b) (hG : gok D cI cR 73 KK LL ad s) (hP : wo D cI cR 73 KK LL ad μ H) (hS : va_S (Ag 73 ad) s.heap H locs) (hl : lv_has ls 4 [(0, .ref b), (1, .ref (ad 0)), (2, .ref (ad 56)), (3, .int (nI j))]) (hj : j + 5 ≤ Ls) (hLs : Ls ≤ 2560) (hcs : cells ≤ room_1.cells ∧ slots ≤ room_1.slots)
    (kk : ∀ (μ2 : Mem) (H : Heap) (locs : List Loc), Inv μ2 → wo D cI cR 73 KK LL ad μ2 H → va_S (Ag 73 ad) s.heap H locs → W p l e room_1 s m args below meth c H locs cells slots Q (F0 m 823 ls [])) : W p l e room_1 s m args below meth c H locs cells slots Q (F0 m 243 ls []) := by
  have hx := S.1
  have hb := S.2.1
  obtain ⟨r, μ1, μ2, h1, h2, hI2⟩ := HQ μ (sx xs j 1) (sx xs j 2) hI
  refine lv_aload_n hx hb dL_law_243 rfl (lv_at hl 1 rfl) ?_
  refine lv_aload_n hx hb dL_law_244 rfl (lv_at hl 0 rfl) ?_
  refine lv_iload_n hx hb dL_law_245 rfl (lv_at hl 3 rfl) ?_
  refine lv_iconst (v := 1) hx hb dL_law_246 (by decide) ?_
  refine lv_iadd hx hb dL_law_247 ?_
  refine va_sld hx hb hX hbl hbA hS (l_in (k := 1) (by omega) hLs rfl) dL_law_248 ?_
  refine lv_aload_n hx hb dL_law_249 rfl (lv_at hl 0 rfl) ?_
  refine lv_iload_n hx hb dL_law_250 rfl (lv_at hl 3 rfl) ?_
  refine lv_iconst (v := 2) hx hb dL_law_251 (by decide) ?_
  refine lv_iadd hx hb dL_law_252 ?_
  refine va_sld hx hb hX hbl hbA hS (l_in (k := 2) (by omega) hLs rfl) dL_law_253 ?_
  refine l_call (As := [.int (sx xs j 1), .int (sx xs j 2)]) (rest := []) S hG hP hS mX8_single kL_36 clX8 isk_0 (tX8_single _ _ _ _ _ _ _ _ isk_0 (sx xs j 1) (sx xs j 2)) ⟨rfl, rfl⟩ ⟨by decide, by decide⟩ h1 hl.1 rfl (Nat.le_of_ble_eq_true rfl) hcs dL_law_254 (fun H locs hP hS => ?_)
  refine lv_aload_n hx hb dL_law_257 rfl (lv_at hl 2 rfl) ?_
  refine lv_aload_n hx hb dL_law_258 rfl (lv_at hl 0 rfl) ?_
  refine lv_iload_n hx hb dL_law_259 rfl (lv_at hl 3 rfl) ?_
  refine lv_iconst (v := 1) hx hb dL_law_260 (by decide) ?_
  refine lv_iadd hx hb dL_law_261 ?_
  refine va_sld hx hb hX hbl hbA hS (l_in (k := 1) (by omega) hLs rfl) dL_law_262 ?_
  refine lv_aload_n hx hb dL_law_263 rfl (lv_at hl 0 rfl) ?_
  refine lv_iload_n hx hb dL_law_264 rfl (lv_at hl 3 rfl) ?_
  refine lv_iconst (v := 2) hx hb dL_law_265 (by decide) ?_
  refine lv_iadd hx hb dL_law_266 ?_
  refine va_sld hx hb hX hbl hbA hS (l_in (k := 2) (by omega) hLs rfl) dL_law_267 ?_
  refine l_call (As := [.int (sx xs j 1), .int (sx xs j 2)]) (rest := [.int r]) S hG hP hS mX9_single kL_39 clX9 isk_56 (tX9_single _ _ _ _ _ _ _ _ isk_56 (sx xs j 1) (sx xs j 2)) ⟨rfl, rfl⟩ ⟨by decide, by decide⟩ h2 hl.1 rfl (Nat.le_of_ble_eq_true rfl) hcs dL_law_268 (fun H locs hP hS => ?_)
  refine lv_icmp_eq (tgt := 823) hx hb dL_law_271 (by decide) (fun _ => ?_) (fun h => absurd rfl h)
  exact kk μ2 H locs hI2 hP hS
set_option maxHeartbeats 4000000 in
set_option maxRecDepth 100000 in
theorem law_6 (HQ : Q_6 Inv) (hI : Inv μ) (S : CallFix p m c code 4 s args TB RL) (hX : va_X b Ls xs s s.heap) (hbl : b < s.heap.size) (hbA : ¬ Ag 73 ad b) (hG : gok D cI cR 73 KK LL ad s) (hP : wo D cI cR 73 KK LL ad μ H) (hS : va_S (Ag 73 ad) s.heap H locs) (hl : lv_has ls 4 [(0, .ref b), (1, .ref (ad 0)), (2, .ref (ad 56)), (3, .int (nI j))]) (hj : j + 5 ≤ Ls) (hLs : Ls ≤ 2560) (hcs : cells ≤ room_1.cells ∧ slots ≤ room_1.slots)
    (kk : ∀ (μ2 : Mem) (H : Heap) (locs : List Loc), Inv μ2 → wo D cI cR 73 KK LL ad μ2 H → va_S (Ag 73 ad) s.heap H locs → W p l e room_1 s m args below meth c H locs cells slots Q (F0 m 823 ls [])) : W p l e room_1 s m args below meth c H locs cells slots Q (F0 m 276 ls []) := by
  have hx := S.1
  have hb := S.2.1
  obtain ⟨r, μ1, μ2, h1, h2, hI2⟩ := HQ μ (sx xs j 1) (sx xs j 2) hI
  refine lv_aload_n hx hb dL_law_276 rfl (lv_at hl 1 rfl) ?_
  refine lv_aload_n hx hb dL_law_277 rfl (lv_at hl 0 rfl) ?_
  refine lv_iload_n hx hb dL_law_278 rfl (lv_at hl 3 rfl) ?_
  refine lv_iconst (v := 1) hx hb dL_law_279 (by decide) ?_
  refine lv_iadd hx hb dL_law_280 ?_
  refine va_sld hx hb hX hbl hbA hS (l_in (k := 1) (by omega) hLs rfl) dL_law_281 ?_
  refine lv_aload_n hx hb dL_law_282 rfl (lv_at hl 0 rfl) ?_
  refine lv_iload_n hx hb dL_law_283 rfl (lv_at hl 3 rfl) ?_
  refine lv_iconst (v := 2) hx hb dL_law_284 (by decide) ?_
  refine lv_iadd hx hb dL_law_285 ?_
  refine va_sld hx hb hX hbl hbA hS (l_in (k := 2) (by omega) hLs rfl) dL_law_286 ?_
  refine l_call (As := [.int (sx xs j 1), .int (sx xs j 2)]) (rest := []) S hG hP hS mX8_table kL_40 clX8 isk_0 (tX8_table _ _ _ _ _ _ _ _ isk_0 (sx xs j 1) (sx xs j 2)) ⟨rfl, rfl⟩ ⟨by decide, by decide⟩ h1 hl.1 rfl (Nat.le_of_ble_eq_true rfl) hcs dL_law_287 (fun H locs hP hS => ?_)
  refine lv_aload_n hx hb dL_law_290 rfl (lv_at hl 2 rfl) ?_
  refine lv_aload_n hx hb dL_law_291 rfl (lv_at hl 0 rfl) ?_
  refine lv_iload_n hx hb dL_law_292 rfl (lv_at hl 3 rfl) ?_
  refine lv_iconst (v := 1) hx hb dL_law_293 (by decide) ?_
  refine lv_iadd hx hb dL_law_294 ?_
  refine va_sld hx hb hX hbl hbA hS (l_in (k := 1) (by omega) hLs rfl) dL_law_295 ?_
  refine lv_aload_n hx hb dL_law_296 rfl (lv_at hl 0 rfl) ?_
  refine lv_iload_n hx hb dL_law_297 rfl (lv_at hl 3 rfl) ?_
  refine lv_iconst (v := 2) hx hb dL_law_298 (by decide) ?_
  refine lv_iadd hx hb dL_law_299 ?_
  refine va_sld hx hb hX hbl hbA hS (l_in (k := 2) (by omega) hLs rfl) dL_law_300 ?_
  refine l_call (As := [.int (sx xs j 1), .int (sx xs j 2)]) (rest := [.int r]) S hG hP hS mX9_table kL_43 clX9 isk_56 (tX9_table _ _ _ _ _ _ _ _ isk_56 (sx xs j 1) (sx xs j 2)) ⟨rfl, rfl⟩ ⟨by decide, by decide⟩ h2 hl.1 rfl (Nat.le_of_ble_eq_true rfl) hcs dL_law_301 (fun H locs hP hS => ?_)
  refine lv_icmp_eq (tgt := 823) hx hb dL_law_304 (by decide) (fun _ => ?_) (fun h => absurd rfl h)
  exact kk μ2 H locs hI2 hP hS
set_option maxHeartbeats 4000000 in
set_option maxRecDepth 100000 in
theorem law_7 (HQ : Q_7 Inv) (hI : Inv μ) (S : CallFix p m c code 4 s args TB RL) (hX : va_X b Ls xs s s.heap) (hbl : b < s.heap.size) (hbA : ¬ Ag 73 ad b) (hG : gok D cI cR 73 KK LL ad s) (hP : wo D cI cR 73 KK LL ad μ H) (hS : va_S (Ag 73 ad) s.heap H locs) (hl : lv_has ls 4 [(0, .ref b), (1, .ref (ad 0)), (2, .ref (ad 56)), (3, .int (nI j))]) (hj : j + 5 ≤ Ls) (hLs : Ls ≤ 2560) (hcs : cells ≤ room_1.cells ∧ slots ≤ room_1.slots)
    (kk : ∀ (μ2 : Mem) (H : Heap) (locs : List Loc), Inv μ2 → wo D cI cR 73 KK LL ad μ2 H → va_S (Ag 73 ad) s.heap H locs → W p l e room_1 s m args below meth c H locs cells slots Q (F0 m 823 ls [])) : W p l e room_1 s m args below meth c H locs cells slots Q (F0 m 309 ls []) := by
  have hx := S.1
  have hb := S.2.1
  obtain ⟨r, μ1, μ2, h1, h2, hI2⟩ := HQ μ (sx xs j 1) (sx xs j 2) (sx xs j 3) hI
  refine lv_aload_n hx hb dL_law_309 rfl (lv_at hl 1 rfl) ?_
  refine lv_aload_n hx hb dL_law_310 rfl (lv_at hl 0 rfl) ?_
  refine lv_iload_n hx hb dL_law_311 rfl (lv_at hl 3 rfl) ?_
  refine lv_iconst (v := 1) hx hb dL_law_312 (by decide) ?_
  refine lv_iadd hx hb dL_law_313 ?_
  refine va_sld hx hb hX hbl hbA hS (l_in (k := 1) (by omega) hLs rfl) dL_law_314 ?_
  refine lv_aload_n hx hb dL_law_315 rfl (lv_at hl 0 rfl) ?_
  refine lv_iload_n hx hb dL_law_316 rfl (lv_at hl 3 rfl) ?_
  refine lv_iconst (v := 2) hx hb dL_law_317 (by decide) ?_
  refine lv_iadd hx hb dL_law_318 ?_
  refine va_sld hx hb hX hbl hbA hS (l_in (k := 2) (by omega) hLs rfl) dL_law_319 ?_
  refine lv_aload_n hx hb dL_law_320 rfl (lv_at hl 0 rfl) ?_
  refine lv_iload_n hx hb dL_law_321 rfl (lv_at hl 3 rfl) ?_
  refine lv_iconst (v := 3) hx hb dL_law_322 (by decide) ?_
  refine lv_iadd hx hb dL_law_323 ?_
  refine va_sld hx hb hX hbl hbA hS (l_in (k := 3) (by omega) hLs rfl) dL_law_324 ?_
  refine l_call (As := [.int (sx xs j 1), .int (sx xs j 2), .int (sx xs j 3)]) (rest := []) S hG hP hS mX8_pair kL_44 clX8 isk_0 (tX8_pair _ _ _ _ _ _ _ _ isk_0 (sx xs j 1) (sx xs j 2) (sx xs j 3)) ⟨rfl, rfl⟩ ⟨by decide, by decide⟩ h1 hl.1 rfl (Nat.le_of_ble_eq_true rfl) hcs dL_law_325 (fun H locs hP hS => ?_)
  refine lv_aload_n hx hb dL_law_328 rfl (lv_at hl 2 rfl) ?_
  refine lv_aload_n hx hb dL_law_329 rfl (lv_at hl 0 rfl) ?_
  refine lv_iload_n hx hb dL_law_330 rfl (lv_at hl 3 rfl) ?_
  refine lv_iconst (v := 1) hx hb dL_law_331 (by decide) ?_
  refine lv_iadd hx hb dL_law_332 ?_
  refine va_sld hx hb hX hbl hbA hS (l_in (k := 1) (by omega) hLs rfl) dL_law_333 ?_
  refine lv_aload_n hx hb dL_law_334 rfl (lv_at hl 0 rfl) ?_
  refine lv_iload_n hx hb dL_law_335 rfl (lv_at hl 3 rfl) ?_
  refine lv_iconst (v := 2) hx hb dL_law_336 (by decide) ?_
  refine lv_iadd hx hb dL_law_337 ?_
  refine va_sld hx hb hX hbl hbA hS (l_in (k := 2) (by omega) hLs rfl) dL_law_338 ?_
  refine lv_aload_n hx hb dL_law_339 rfl (lv_at hl 0 rfl) ?_
  refine lv_iload_n hx hb dL_law_340 rfl (lv_at hl 3 rfl) ?_
  refine lv_iconst (v := 3) hx hb dL_law_341 (by decide) ?_
  refine lv_iadd hx hb dL_law_342 ?_
  refine va_sld hx hb hX hbl hbA hS (l_in (k := 3) (by omega) hLs rfl) dL_law_343 ?_
  refine l_call (As := [.int (sx xs j 1), .int (sx xs j 2), .int (sx xs j 3)]) (rest := [.int r]) S hG hP hS mX9_pair kL_48 clX9 isk_56 (tX9_pair _ _ _ _ _ _ _ _ isk_56 (sx xs j 1) (sx xs j 2) (sx xs j 3)) ⟨rfl, rfl⟩ ⟨by decide, by decide⟩ h2 hl.1 rfl (Nat.le_of_ble_eq_true rfl) hcs dL_law_344 (fun H locs hP hS => ?_)
  refine lv_icmp_eq (tgt := 823) hx hb dL_law_347 (by decide) (fun _ => ?_) (fun h => absurd rfl h)
  exact kk μ2 H locs hI2 hP hS
set_option maxHeartbeats 4000000 in
set_option maxRecDepth 100000 in
theorem law_8 (HQ : Q_8 Inv) (hI : Inv μ) (S : CallFix p m c code 4 s args TB RL) (hX : va_X b Ls xs s s.heap) (hbl : b < s.heap.size) (hbA : ¬ Ag 73 ad b) (hG : gok D cI cR 73 KK LL ad s) (hP : wo D cI cR 73 KK LL ad μ H) (hS : va_S (Ag 73 ad) s.heap H locs) (hl : lv_has ls 4 [(0, .ref b), (1, .ref (ad 0)), (2, .ref (ad 56)), (3, .int (nI j))]) (hj : j + 5 ≤ Ls) (hLs : Ls ≤ 2560) (hcs : cells ≤ room_1.cells ∧ slots ≤ room_1.slots)
    (kk : ∀ (μ2 : Mem) (H : Heap) (locs : List Loc), Inv μ2 → wo D cI cR 73 KK LL ad μ2 H → va_S (Ag 73 ad) s.heap H locs → W p l e room_1 s m args below meth c H locs cells slots Q (F0 m 823 ls [])) : W p l e room_1 s m args below meth c H locs cells slots Q (F0 m 352 ls []) := by
  have hx := S.1
  have hb := S.2.1
  obtain ⟨r, μ1, μ2, h1, h2, hI2⟩ := HQ μ (sx xs j 1) (sx xs j 2) (sx xs j 3) hI
  refine lv_aload_n hx hb dL_law_352 rfl (lv_at hl 1 rfl) ?_
  refine lv_aload_n hx hb dL_law_353 rfl (lv_at hl 0 rfl) ?_
  refine lv_iload_n hx hb dL_law_354 rfl (lv_at hl 3 rfl) ?_
  refine lv_iconst (v := 1) hx hb dL_law_355 (by decide) ?_
  refine lv_iadd hx hb dL_law_356 ?_
  refine va_sld hx hb hX hbl hbA hS (l_in (k := 1) (by omega) hLs rfl) dL_law_357 ?_
  refine lv_aload_n hx hb dL_law_358 rfl (lv_at hl 0 rfl) ?_
  refine lv_iload_n hx hb dL_law_359 rfl (lv_at hl 3 rfl) ?_
  refine lv_iconst (v := 2) hx hb dL_law_360 (by decide) ?_
  refine lv_iadd hx hb dL_law_361 ?_
  refine va_sld hx hb hX hbl hbA hS (l_in (k := 2) (by omega) hLs rfl) dL_law_362 ?_
  refine lv_aload_n hx hb dL_law_363 rfl (lv_at hl 0 rfl) ?_
  refine lv_iload_n hx hb dL_law_364 rfl (lv_at hl 3 rfl) ?_
  refine lv_iconst (v := 3) hx hb dL_law_365 (by decide) ?_
  refine lv_iadd hx hb dL_law_366 ?_
  refine va_sld hx hb hX hbl hbA hS (l_in (k := 3) (by omega) hLs rfl) dL_law_367 ?_
  refine l_call (As := [.int (sx xs j 1), .int (sx xs j 2), .int (sx xs j 3)]) (rest := []) S hG hP hS mX8_grow kL_49 clX8 isk_0 (tX8_grow _ _ _ _ _ _ _ _ isk_0 (sx xs j 1) (sx xs j 2) (sx xs j 3)) ⟨rfl, rfl⟩ ⟨by decide, by decide⟩ h1 hl.1 rfl (Nat.le_of_ble_eq_true rfl) hcs dL_law_368 (fun H locs hP hS => ?_)
  refine lv_aload_n hx hb dL_law_371 rfl (lv_at hl 2 rfl) ?_
  refine lv_aload_n hx hb dL_law_372 rfl (lv_at hl 0 rfl) ?_
  refine lv_iload_n hx hb dL_law_373 rfl (lv_at hl 3 rfl) ?_
  refine lv_iconst (v := 1) hx hb dL_law_374 (by decide) ?_
  refine lv_iadd hx hb dL_law_375 ?_
  refine va_sld hx hb hX hbl hbA hS (l_in (k := 1) (by omega) hLs rfl) dL_law_376 ?_
  refine lv_aload_n hx hb dL_law_377 rfl (lv_at hl 0 rfl) ?_
  refine lv_iload_n hx hb dL_law_378 rfl (lv_at hl 3 rfl) ?_
  refine lv_iconst (v := 2) hx hb dL_law_379 (by decide) ?_
  refine lv_iadd hx hb dL_law_380 ?_
  refine va_sld hx hb hX hbl hbA hS (l_in (k := 2) (by omega) hLs rfl) dL_law_381 ?_
  refine lv_aload_n hx hb dL_law_382 rfl (lv_at hl 0 rfl) ?_
  refine lv_iload_n hx hb dL_law_383 rfl (lv_at hl 3 rfl) ?_
  refine lv_iconst (v := 3) hx hb dL_law_384 (by decide) ?_
  refine lv_iadd hx hb dL_law_385 ?_
  refine va_sld hx hb hX hbl hbA hS (l_in (k := 3) (by omega) hLs rfl) dL_law_386 ?_
  refine l_call (As := [.int (sx xs j 1), .int (sx xs j 2), .int (sx xs j 3)]) (rest := [.int r]) S hG hP hS mX9_grow kL_52 clX9 isk_56 (tX9_grow _ _ _ _ _ _ _ _ isk_56 (sx xs j 1) (sx xs j 2) (sx xs j 3)) ⟨rfl, rfl⟩ ⟨by decide, by decide⟩ h2 hl.1 rfl (Nat.le_of_ble_eq_true rfl) hcs dL_law_387 (fun H locs hP hS => ?_)
  refine lv_icmp_eq (tgt := 823) hx hb dL_law_390 (by decide) (fun _ => ?_) (fun h => absurd rfl h)
  exact kk μ2 H locs hI2 hP hS
set_option maxHeartbeats 4000000 in
set_option maxRecDepth 100000 in
theorem law_9 (HQ : Q_9 Inv) (hI : Inv μ) (S : CallFix p m c code 4 s args TB RL) (hX : va_X b Ls xs s s.heap) (hbl : b < s.heap.size) (hbA : ¬ Ag 73 ad b) (hG : gok D cI cR 73 KK LL ad s) (hP : wo D cI cR 73 KK LL ad μ H) (hS : va_S (Ag 73 ad) s.heap H locs) (hl : lv_has ls 4 [(0, .ref b), (1, .ref (ad 0)), (2, .ref (ad 56)), (3, .int (nI j))]) (hj : j + 5 ≤ Ls) (hLs : Ls ≤ 2560) (hcs : cells ≤ room_1.cells ∧ slots ≤ room_1.slots)
    (kk : ∀ (μ2 : Mem) (H : Heap) (locs : List Loc), Inv μ2 → wo D cI cR 73 KK LL ad μ2 H → va_S (Ag 73 ad) s.heap H locs → W p l e room_1 s m args below meth c H locs cells slots Q (F0 m 823 ls [])) : W p l e room_1 s m args below meth c H locs cells slots Q (F0 m 395 ls []) := by
  have hx := S.1
  have hb := S.2.1
  obtain ⟨r, μ1, μ2, h1, h2, hI2⟩ := HQ μ (sx xs j 1) (sx xs j 2) hI
  refine lv_aload_n hx hb dL_law_395 rfl (lv_at hl 1 rfl) ?_
  refine lv_aload_n hx hb dL_law_396 rfl (lv_at hl 0 rfl) ?_
  refine lv_iload_n hx hb dL_law_397 rfl (lv_at hl 3 rfl) ?_
  refine lv_iconst (v := 1) hx hb dL_law_398 (by decide) ?_
  refine lv_iadd hx hb dL_law_399 ?_
  refine va_sld hx hb hX hbl hbA hS (l_in (k := 1) (by omega) hLs rfl) dL_law_400 ?_
  refine lv_aload_n hx hb dL_law_401 rfl (lv_at hl 0 rfl) ?_
  refine lv_iload_n hx hb dL_law_402 rfl (lv_at hl 3 rfl) ?_
  refine lv_iconst (v := 2) hx hb dL_law_403 (by decide) ?_
  refine lv_iadd hx hb dL_law_404 ?_
  refine va_sld hx hb hX hbl hbA hS (l_in (k := 2) (by omega) hLs rfl) dL_law_405 ?_
  refine l_call (As := [.int (sx xs j 1), .int (sx xs j 2)]) (rest := []) S hG hP hS mX8_choose kL_53 clX8 isk_0 (tX8_choose _ _ _ _ _ _ _ _ isk_0 (sx xs j 1) (sx xs j 2)) ⟨rfl, rfl⟩ ⟨by decide, by decide⟩ h1 hl.1 rfl (Nat.le_of_ble_eq_true rfl) hcs dL_law_406 (fun H locs hP hS => ?_)
  refine lv_aload_n hx hb dL_law_409 rfl (lv_at hl 2 rfl) ?_
  refine lv_aload_n hx hb dL_law_410 rfl (lv_at hl 0 rfl) ?_
  refine lv_iload_n hx hb dL_law_411 rfl (lv_at hl 3 rfl) ?_
  refine lv_iconst (v := 1) hx hb dL_law_412 (by decide) ?_
  refine lv_iadd hx hb dL_law_413 ?_
  refine va_sld hx hb hX hbl hbA hS (l_in (k := 1) (by omega) hLs rfl) dL_law_414 ?_
  refine lv_aload_n hx hb dL_law_415 rfl (lv_at hl 0 rfl) ?_
  refine lv_iload_n hx hb dL_law_416 rfl (lv_at hl 3 rfl) ?_
  refine lv_iconst (v := 2) hx hb dL_law_417 (by decide) ?_
  refine lv_iadd hx hb dL_law_418 ?_
  refine va_sld hx hb hX hbl hbA hS (l_in (k := 2) (by omega) hLs rfl) dL_law_419 ?_
  refine l_call (As := [.int (sx xs j 1), .int (sx xs j 2)]) (rest := [.int r]) S hG hP hS mX9_choose kL_56 clX9 isk_56 (tX9_choose _ _ _ _ _ _ _ _ isk_56 (sx xs j 1) (sx xs j 2)) ⟨rfl, rfl⟩ ⟨by decide, by decide⟩ h2 hl.1 rfl (Nat.le_of_ble_eq_true rfl) hcs dL_law_420 (fun H locs hP hS => ?_)
  refine lv_icmp_eq (tgt := 823) hx hb dL_law_423 (by decide) (fun _ => ?_) (fun h => absurd rfl h)
  exact kk μ2 H locs hI2 hP hS
set_option maxHeartbeats 4000000 in
set_option maxRecDepth 100000 in
theorem law_10 (HQ : Q_10 Inv) (hI : Inv μ) (S : CallFix p m c code 4 s args TB RL) (hX : va_X b Ls xs s s.heap) (hbl : b < s.heap.size) (hbA : ¬ Ag 73 ad b) (hG : gok D cI cR 73 KK LL ad s) (hP : wo D cI cR 73 KK LL ad μ H) (hS : va_S (Ag 73 ad) s.heap H locs) (hl : lv_has ls 4 [(0, .ref b), (1, .ref (ad 0)), (2, .ref (ad 56)), (3, .int (nI j))]) (hj : j + 5 ≤ Ls) (hLs : Ls ≤ 2560) (hcs : cells ≤ room_1.cells ∧ slots ≤ room_1.slots)
    (kk : ∀ (μ2 : Mem) (H : Heap) (locs : List Loc), Inv μ2 → wo D cI cR 73 KK LL ad μ2 H → va_S (Ag 73 ad) s.heap H locs → W p l e room_1 s m args below meth c H locs cells slots Q (F0 m 823 ls [])) : W p l e room_1 s m args below meth c H locs cells slots Q (F0 m 428 ls []) := by
  have hx := S.1
  have hb := S.2.1
  obtain ⟨r, μ1, μ2, h1, h2, hI2⟩ := HQ μ  hI
  refine lv_aload_n hx hb dL_law_428 rfl (lv_at hl 1 rfl) ?_
  refine l_call (As := []) (rest := []) S hG hP hS mX8_total kL_57 clX8 isk_0 (tX8_total _ _ _ _ _ _ _ _ isk_0 ) ⟨rfl, rfl⟩ ⟨by decide, by decide⟩ h1 hl.1 rfl (Nat.le_of_ble_eq_true rfl) hcs dL_law_429 (fun H locs hP hS => ?_)
  refine lv_aload_n hx hb dL_law_432 rfl (lv_at hl 2 rfl) ?_
  refine l_call (As := []) (rest := [.int r]) S hG hP hS mX9_total kL_60 clX9 isk_56 (tX9_total _ _ _ _ _ _ _ _ isk_56 ) ⟨rfl, rfl⟩ ⟨by decide, by decide⟩ h2 hl.1 rfl (Nat.le_of_ble_eq_true rfl) hcs dL_law_433 (fun H locs hP hS => ?_)
  refine lv_icmp_eq (tgt := 823) hx hb dL_law_436 (by decide) (fun _ => ?_) (fun h => absurd rfl h)
  exact kk μ2 H locs hI2 hP hS
set_option maxHeartbeats 4000000 in
set_option maxRecDepth 100000 in
theorem law_11 (HQ : Q_11 Inv) (hI : Inv μ) (S : CallFix p m c code 4 s args TB RL) (hX : va_X b Ls xs s s.heap) (hbl : b < s.heap.size) (hbA : ¬ Ag 73 ad b) (hG : gok D cI cR 73 KK LL ad s) (hP : wo D cI cR 73 KK LL ad μ H) (hS : va_S (Ag 73 ad) s.heap H locs) (hl : lv_has ls 4 [(0, .ref b), (1, .ref (ad 0)), (2, .ref (ad 56)), (3, .int (nI j))]) (hj : j + 5 ≤ Ls) (hLs : Ls ≤ 2560) (hcs : cells ≤ room_1.cells ∧ slots ≤ room_1.slots)
    (kk : ∀ (μ2 : Mem) (H : Heap) (locs : List Loc), Inv μ2 → wo D cI cR 73 KK LL ad μ2 H → va_S (Ag 73 ad) s.heap H locs → W p l e room_1 s m args below meth c H locs cells slots Q (F0 m 823 ls [])) : W p l e room_1 s m args below meth c H locs cells slots Q (F0 m 441 ls []) := by
  have hx := S.1
  have hb := S.2.1
  obtain ⟨r, μ1, μ2, h1, h2, hI2⟩ := HQ μ (sx xs j 1) (sx xs j 2) (sx xs j 3) (sx xs j 4) hI
  refine lv_aload_n hx hb dL_law_441 rfl (lv_at hl 1 rfl) ?_
  refine lv_aload_n hx hb dL_law_442 rfl (lv_at hl 0 rfl) ?_
  refine lv_iload_n hx hb dL_law_443 rfl (lv_at hl 3 rfl) ?_
  refine lv_iconst (v := 1) hx hb dL_law_444 (by decide) ?_
  refine lv_iadd hx hb dL_law_445 ?_
  refine va_sld hx hb hX hbl hbA hS (l_in (k := 1) (by omega) hLs rfl) dL_law_446 ?_
  refine lv_aload_n hx hb dL_law_447 rfl (lv_at hl 0 rfl) ?_
  refine lv_iload_n hx hb dL_law_448 rfl (lv_at hl 3 rfl) ?_
  refine lv_iconst (v := 2) hx hb dL_law_449 (by decide) ?_
  refine lv_iadd hx hb dL_law_450 ?_
  refine va_sld hx hb hX hbl hbA hS (l_in (k := 2) (by omega) hLs rfl) dL_law_451 ?_
  refine lv_aload_n hx hb dL_law_452 rfl (lv_at hl 0 rfl) ?_
  refine lv_iload_n hx hb dL_law_453 rfl (lv_at hl 3 rfl) ?_
  refine lv_iconst (v := 3) hx hb dL_law_454 (by decide) ?_
  refine lv_iadd hx hb dL_law_455 ?_
  refine va_sld hx hb hX hbl hbA hS (l_in (k := 3) (by omega) hLs rfl) dL_law_456 ?_
  refine lv_aload_n hx hb dL_law_457 rfl (lv_at hl 0 rfl) ?_
  refine lv_iload_n hx hb dL_law_458 rfl (lv_at hl 3 rfl) ?_
  refine lv_iconst (v := 4) hx hb dL_law_459 (by decide) ?_
  refine lv_iadd hx hb dL_law_460 ?_
  refine va_sld hx hb hX hbl hbA hS (l_in (k := 4) (by omega) hLs rfl) dL_law_461 ?_
  refine l_call (As := [.int (sx xs j 1), .int (sx xs j 2), .int (sx xs j 3), .int (sx xs j 4)]) (rest := []) S hG hP hS mX8_project kL_61 clX8 isk_0 (tX8_project _ _ _ _ _ _ _ _ isk_0 (sx xs j 1) (sx xs j 2) (sx xs j 3) (sx xs j 4)) ⟨rfl, rfl⟩ ⟨by decide, by decide⟩ h1 hl.1 rfl (Nat.le_of_ble_eq_true rfl) hcs dL_law_462 (fun H locs hP hS => ?_)
  refine lv_aload_n hx hb dL_law_465 rfl (lv_at hl 2 rfl) ?_
  refine lv_aload_n hx hb dL_law_466 rfl (lv_at hl 0 rfl) ?_
  refine lv_iload_n hx hb dL_law_467 rfl (lv_at hl 3 rfl) ?_
  refine lv_iconst (v := 1) hx hb dL_law_468 (by decide) ?_
  refine lv_iadd hx hb dL_law_469 ?_
  refine va_sld hx hb hX hbl hbA hS (l_in (k := 1) (by omega) hLs rfl) dL_law_470 ?_
  refine lv_aload_n hx hb dL_law_471 rfl (lv_at hl 0 rfl) ?_
  refine lv_iload_n hx hb dL_law_472 rfl (lv_at hl 3 rfl) ?_
  refine lv_iconst (v := 2) hx hb dL_law_473 (by decide) ?_
  refine lv_iadd hx hb dL_law_474 ?_
  refine va_sld hx hb hX hbl hbA hS (l_in (k := 2) (by omega) hLs rfl) dL_law_475 ?_
  refine lv_aload_n hx hb dL_law_476 rfl (lv_at hl 0 rfl) ?_
  refine lv_iload_n hx hb dL_law_477 rfl (lv_at hl 3 rfl) ?_
  refine lv_iconst (v := 3) hx hb dL_law_478 (by decide) ?_
  refine lv_iadd hx hb dL_law_479 ?_
  refine va_sld hx hb hX hbl hbA hS (l_in (k := 3) (by omega) hLs rfl) dL_law_480 ?_
  refine lv_aload_n hx hb dL_law_481 rfl (lv_at hl 0 rfl) ?_
  refine lv_iload_n hx hb dL_law_482 rfl (lv_at hl 3 rfl) ?_
  refine lv_iconst (v := 4) hx hb dL_law_483 (by decide) ?_
  refine lv_iadd hx hb dL_law_484 ?_
  refine va_sld hx hb hX hbl hbA hS (l_in (k := 4) (by omega) hLs rfl) dL_law_485 ?_
  refine l_call (As := [.int (sx xs j 1), .int (sx xs j 2), .int (sx xs j 3), .int (sx xs j 4)]) (rest := [.int r]) S hG hP hS mX9_project kL_65 clX9 isk_56 (tX9_project _ _ _ _ _ _ _ _ isk_56 (sx xs j 1) (sx xs j 2) (sx xs j 3) (sx xs j 4)) ⟨rfl, rfl⟩ ⟨by decide, by decide⟩ h2 hl.1 rfl (Nat.le_of_ble_eq_true rfl) hcs dL_law_486 (fun H locs hP hS => ?_)
  refine lv_icmp_eq (tgt := 823) hx hb dL_law_489 (by decide) (fun _ => ?_) (fun h => absurd rfl h)
  exact kk μ2 H locs hI2 hP hS
set_option maxHeartbeats 4000000 in
set_option maxRecDepth 100000 in
theorem law_12 (HQ : Q_12 Inv) (hI : Inv μ) (S : CallFix p m c code 4 s args TB RL) (hX : va_X b Ls xs s s.heap) (hbl : b < s.heap.size) (hbA : ¬ Ag 73 ad b) (hG : gok D cI cR 73 KK LL ad s) (hP : wo D cI cR 73 KK LL ad μ H) (hS : va_S (Ag 73 ad) s.heap H locs) (hl : lv_has ls 4 [(0, .ref b), (1, .ref (ad 0)), (2, .ref (ad 56)), (3, .int (nI j))]) (hj : j + 5 ≤ Ls) (hLs : Ls ≤ 2560) (hcs : cells ≤ room_1.cells ∧ slots ≤ room_1.slots)
    (kk : ∀ (μ2 : Mem) (H : Heap) (locs : List Loc), Inv μ2 → wo D cI cR 73 KK LL ad μ2 H → va_S (Ag 73 ad) s.heap H locs → W p l e room_1 s m args below meth c H locs cells slots Q (F0 m 823 ls [])) : W p l e room_1 s m args below meth c H locs cells slots Q (F0 m 494 ls []) := by
  have hx := S.1
  have hb := S.2.1
  obtain ⟨r, μ1, μ2, h1, h2, hI2⟩ := HQ μ (sx xs j 1) (sx xs j 2) (sx xs j 3) (sx xs j 4) hI
  refine lv_aload_n hx hb dL_law_494 rfl (lv_at hl 1 rfl) ?_
  refine lv_aload_n hx hb dL_law_495 rfl (lv_at hl 0 rfl) ?_
  refine lv_iload_n hx hb dL_law_496 rfl (lv_at hl 3 rfl) ?_
  refine lv_iconst (v := 1) hx hb dL_law_497 (by decide) ?_
  refine lv_iadd hx hb dL_law_498 ?_
  refine va_sld hx hb hX hbl hbA hS (l_in (k := 1) (by omega) hLs rfl) dL_law_499 ?_
  refine lv_aload_n hx hb dL_law_500 rfl (lv_at hl 0 rfl) ?_
  refine lv_iload_n hx hb dL_law_501 rfl (lv_at hl 3 rfl) ?_
  refine lv_iconst (v := 2) hx hb dL_law_502 (by decide) ?_
  refine lv_iadd hx hb dL_law_503 ?_
  refine va_sld hx hb hX hbl hbA hS (l_in (k := 2) (by omega) hLs rfl) dL_law_504 ?_
  refine lv_aload_n hx hb dL_law_505 rfl (lv_at hl 0 rfl) ?_
  refine lv_iload_n hx hb dL_law_506 rfl (lv_at hl 3 rfl) ?_
  refine lv_iconst (v := 3) hx hb dL_law_507 (by decide) ?_
  refine lv_iadd hx hb dL_law_508 ?_
  refine va_sld hx hb hX hbl hbA hS (l_in (k := 3) (by omega) hLs rfl) dL_law_509 ?_
  refine lv_aload_n hx hb dL_law_510 rfl (lv_at hl 0 rfl) ?_
  refine lv_iload_n hx hb dL_law_511 rfl (lv_at hl 3 rfl) ?_
  refine lv_iconst (v := 4) hx hb dL_law_512 (by decide) ?_
  refine lv_iadd hx hb dL_law_513 ?_
  refine va_sld hx hb hX hbl hbA hS (l_in (k := 4) (by omega) hLs rfl) dL_law_514 ?_
  refine l_call (As := [.int (sx xs j 1), .int (sx xs j 2), .int (sx xs j 3), .int (sx xs j 4)]) (rest := []) S hG hP hS mX8_extend kL_66 clX8 isk_0 (tX8_extend _ _ _ _ _ _ _ _ isk_0 (sx xs j 1) (sx xs j 2) (sx xs j 3) (sx xs j 4)) ⟨rfl, rfl⟩ ⟨by decide, by decide⟩ h1 hl.1 rfl (Nat.le_of_ble_eq_true rfl) hcs dL_law_515 (fun H locs hP hS => ?_)
  refine lv_aload_n hx hb dL_law_518 rfl (lv_at hl 2 rfl) ?_
  refine lv_aload_n hx hb dL_law_519 rfl (lv_at hl 0 rfl) ?_
  refine lv_iload_n hx hb dL_law_520 rfl (lv_at hl 3 rfl) ?_
  refine lv_iconst (v := 1) hx hb dL_law_521 (by decide) ?_
  refine lv_iadd hx hb dL_law_522 ?_
  refine va_sld hx hb hX hbl hbA hS (l_in (k := 1) (by omega) hLs rfl) dL_law_523 ?_
  refine lv_aload_n hx hb dL_law_524 rfl (lv_at hl 0 rfl) ?_
  refine lv_iload_n hx hb dL_law_525 rfl (lv_at hl 3 rfl) ?_
  refine lv_iconst (v := 2) hx hb dL_law_526 (by decide) ?_
  refine lv_iadd hx hb dL_law_527 ?_
  refine va_sld hx hb hX hbl hbA hS (l_in (k := 2) (by omega) hLs rfl) dL_law_528 ?_
  refine lv_aload_n hx hb dL_law_529 rfl (lv_at hl 0 rfl) ?_
  refine lv_iload_n hx hb dL_law_530 rfl (lv_at hl 3 rfl) ?_
  refine lv_iconst (v := 3) hx hb dL_law_531 (by decide) ?_
  refine lv_iadd hx hb dL_law_532 ?_
  refine va_sld hx hb hX hbl hbA hS (l_in (k := 3) (by omega) hLs rfl) dL_law_533 ?_
  refine lv_aload_n hx hb dL_law_534 rfl (lv_at hl 0 rfl) ?_
  refine lv_iload_n hx hb dL_law_535 rfl (lv_at hl 3 rfl) ?_
  refine lv_iconst (v := 4) hx hb dL_law_536 (by decide) ?_
  refine lv_iadd hx hb dL_law_537 ?_
  refine va_sld hx hb hX hbl hbA hS (l_in (k := 4) (by omega) hLs rfl) dL_law_538 ?_
  refine l_call (As := [.int (sx xs j 1), .int (sx xs j 2), .int (sx xs j 3), .int (sx xs j 4)]) (rest := [.int r]) S hG hP hS mX9_extend kL_69 clX9 isk_56 (tX9_extend _ _ _ _ _ _ _ _ isk_56 (sx xs j 1) (sx xs j 2) (sx xs j 3) (sx xs j 4)) ⟨rfl, rfl⟩ ⟨by decide, by decide⟩ h2 hl.1 rfl (Nat.le_of_ble_eq_true rfl) hcs dL_law_539 (fun H locs hP hS => ?_)
  refine lv_icmp_eq (tgt := 823) hx hb dL_law_542 (by decide) (fun _ => ?_) (fun h => absurd rfl h)
  exact kk μ2 H locs hI2 hP hS
set_option maxHeartbeats 4000000 in
set_option maxRecDepth 100000 in
theorem law_13 (HQ : Q_13 Inv) (hI : Inv μ) (S : CallFix p m c code 4 s args TB RL) (hX : va_X b Ls xs s s.heap) (hbl : b < s.heap.size) (hbA : ¬ Ag 73 ad b) (hG : gok D cI cR 73 KK LL ad s) (hP : wo D cI cR 73 KK LL ad μ H) (hS : va_S (Ag 73 ad) s.heap H locs) (hl : lv_has ls 4 [(0, .ref b), (1, .ref (ad 0)), (2, .ref (ad 56)), (3, .int (nI j))]) (hj : j + 5 ≤ Ls) (hLs : Ls ≤ 2560) (hcs : cells ≤ room_1.cells ∧ slots ≤ room_1.slots)
    (kk : ∀ (μ2 : Mem) (H : Heap) (locs : List Loc), Inv μ2 → wo D cI cR 73 KK LL ad μ2 H → va_S (Ag 73 ad) s.heap H locs → W p l e room_1 s m args below meth c H locs cells slots Q (F0 m 823 ls [])) : W p l e room_1 s m args below meth c H locs cells slots Q (F0 m 547 ls []) := by
  have hx := S.1
  have hb := S.2.1
  obtain ⟨r, μ1, μ2, h1, h2, hI2⟩ := HQ μ (sx xs j 1) (sx xs j 2) hI
  refine lv_aload_n hx hb dL_law_547 rfl (lv_at hl 1 rfl) ?_
  refine lv_aload_n hx hb dL_law_548 rfl (lv_at hl 0 rfl) ?_
  refine lv_iload_n hx hb dL_law_549 rfl (lv_at hl 3 rfl) ?_
  refine lv_iconst (v := 1) hx hb dL_law_550 (by decide) ?_
  refine lv_iadd hx hb dL_law_551 ?_
  refine va_sld hx hb hX hbl hbA hS (l_in (k := 1) (by omega) hLs rfl) dL_law_552 ?_
  refine lv_aload_n hx hb dL_law_553 rfl (lv_at hl 0 rfl) ?_
  refine lv_iload_n hx hb dL_law_554 rfl (lv_at hl 3 rfl) ?_
  refine lv_iconst (v := 2) hx hb dL_law_555 (by decide) ?_
  refine lv_iadd hx hb dL_law_556 ?_
  refine va_sld hx hb hX hbl hbA hS (l_in (k := 2) (by omega) hLs rfl) dL_law_557 ?_
  refine l_call (As := [.int (sx xs j 1), .int (sx xs j 2)]) (rest := []) S hG hP hS mX8_raise kL_70 clX8 isk_0 (tX8_raise _ _ _ _ _ _ _ _ isk_0 (sx xs j 1) (sx xs j 2)) ⟨rfl, rfl⟩ ⟨by decide, by decide⟩ h1 hl.1 rfl (Nat.le_of_ble_eq_true rfl) hcs dL_law_558 (fun H locs hP hS => ?_)
  refine lv_aload_n hx hb dL_law_561 rfl (lv_at hl 2 rfl) ?_
  refine lv_aload_n hx hb dL_law_562 rfl (lv_at hl 0 rfl) ?_
  refine lv_iload_n hx hb dL_law_563 rfl (lv_at hl 3 rfl) ?_
  refine lv_iconst (v := 1) hx hb dL_law_564 (by decide) ?_
  refine lv_iadd hx hb dL_law_565 ?_
  refine va_sld hx hb hX hbl hbA hS (l_in (k := 1) (by omega) hLs rfl) dL_law_566 ?_
  refine lv_aload_n hx hb dL_law_567 rfl (lv_at hl 0 rfl) ?_
  refine lv_iload_n hx hb dL_law_568 rfl (lv_at hl 3 rfl) ?_
  refine lv_iconst (v := 2) hx hb dL_law_569 (by decide) ?_
  refine lv_iadd hx hb dL_law_570 ?_
  refine va_sld hx hb hX hbl hbA hS (l_in (k := 2) (by omega) hLs rfl) dL_law_571 ?_
  refine l_call (As := [.int (sx xs j 1), .int (sx xs j 2)]) (rest := [.int r]) S hG hP hS mX9_raise kL_73 clX9 isk_56 (tX9_raise _ _ _ _ _ _ _ _ isk_56 (sx xs j 1) (sx xs j 2)) ⟨rfl, rfl⟩ ⟨by decide, by decide⟩ h2 hl.1 rfl (Nat.le_of_ble_eq_true rfl) hcs dL_law_572 (fun H locs hP hS => ?_)
  refine lv_icmp_eq (tgt := 823) hx hb dL_law_575 (by decide) (fun _ => ?_) (fun h => absurd rfl h)
  exact kk μ2 H locs hI2 hP hS
set_option maxHeartbeats 4000000 in
set_option maxRecDepth 100000 in
theorem law_14 (HQ : Q_14 Inv) (hI : Inv μ) (S : CallFix p m c code 4 s args TB RL) (hX : va_X b Ls xs s s.heap) (hbl : b < s.heap.size) (hbA : ¬ Ag 73 ad b) (hG : gok D cI cR 73 KK LL ad s) (hP : wo D cI cR 73 KK LL ad μ H) (hS : va_S (Ag 73 ad) s.heap H locs) (hl : lv_has ls 4 [(0, .ref b), (1, .ref (ad 0)), (2, .ref (ad 56)), (3, .int (nI j))]) (hj : j + 5 ≤ Ls) (hLs : Ls ≤ 2560) (hcs : cells ≤ room_1.cells ∧ slots ≤ room_1.slots)
    (kk : ∀ (μ2 : Mem) (H : Heap) (locs : List Loc), Inv μ2 → wo D cI cR 73 KK LL ad μ2 H → va_S (Ag 73 ad) s.heap H locs → W p l e room_1 s m args below meth c H locs cells slots Q (F0 m 823 ls [])) : W p l e room_1 s m args below meth c H locs cells slots Q (F0 m 580 ls []) := by
  have hx := S.1
  have hb := S.2.1
  obtain ⟨r, μ1, μ2, h1, h2, hI2⟩ := HQ μ (sx xs j 1) (sx xs j 2) hI
  refine lv_aload_n hx hb dL_law_580 rfl (lv_at hl 1 rfl) ?_
  refine lv_aload_n hx hb dL_law_581 rfl (lv_at hl 0 rfl) ?_
  refine lv_iload_n hx hb dL_law_582 rfl (lv_at hl 3 rfl) ?_
  refine lv_iconst (v := 1) hx hb dL_law_583 (by decide) ?_
  refine lv_iadd hx hb dL_law_584 ?_
  refine va_sld hx hb hX hbl hbA hS (l_in (k := 1) (by omega) hLs rfl) dL_law_585 ?_
  refine lv_aload_n hx hb dL_law_586 rfl (lv_at hl 0 rfl) ?_
  refine lv_iload_n hx hb dL_law_587 rfl (lv_at hl 3 rfl) ?_
  refine lv_iconst (v := 2) hx hb dL_law_588 (by decide) ?_
  refine lv_iadd hx hb dL_law_589 ?_
  refine va_sld hx hb hX hbl hbA hS (l_in (k := 2) (by omega) hLs rfl) dL_law_590 ?_
  refine l_call (As := [.int (sx xs j 1), .int (sx xs j 2)]) (rest := []) S hG hP hS mX8_sweep kL_74 clX8 isk_0 (tX8_sweep _ _ _ _ _ _ _ _ isk_0 (sx xs j 1) (sx xs j 2)) ⟨rfl, rfl⟩ ⟨by decide, by decide⟩ h1 hl.1 rfl (Nat.le_of_ble_eq_true rfl) hcs dL_law_591 (fun H locs hP hS => ?_)
  refine lv_aload_n hx hb dL_law_594 rfl (lv_at hl 2 rfl) ?_
  refine lv_aload_n hx hb dL_law_595 rfl (lv_at hl 0 rfl) ?_
  refine lv_iload_n hx hb dL_law_596 rfl (lv_at hl 3 rfl) ?_
  refine lv_iconst (v := 1) hx hb dL_law_597 (by decide) ?_
  refine lv_iadd hx hb dL_law_598 ?_
  refine va_sld hx hb hX hbl hbA hS (l_in (k := 1) (by omega) hLs rfl) dL_law_599 ?_
  refine lv_aload_n hx hb dL_law_600 rfl (lv_at hl 0 rfl) ?_
  refine lv_iload_n hx hb dL_law_601 rfl (lv_at hl 3 rfl) ?_
  refine lv_iconst (v := 2) hx hb dL_law_602 (by decide) ?_
  refine lv_iadd hx hb dL_law_603 ?_
  refine va_sld hx hb hX hbl hbA hS (l_in (k := 2) (by omega) hLs rfl) dL_law_604 ?_
  refine l_call (As := [.int (sx xs j 1), .int (sx xs j 2)]) (rest := [.int r]) S hG hP hS mX9_sweep kL_77 clX9 isk_56 (tX9_sweep _ _ _ _ _ _ _ _ isk_56 (sx xs j 1) (sx xs j 2)) ⟨rfl, rfl⟩ ⟨by decide, by decide⟩ h2 hl.1 rfl (Nat.le_of_ble_eq_true rfl) hcs dL_law_605 (fun H locs hP hS => ?_)
  refine lv_icmp_eq (tgt := 823) hx hb dL_law_608 (by decide) (fun _ => ?_) (fun h => absurd rfl h)
  exact kk μ2 H locs hI2 hP hS
set_option maxHeartbeats 4000000 in
set_option maxRecDepth 100000 in
theorem law_15 (HQ : Q_15 Inv) (hI : Inv μ) (S : CallFix p m c code 4 s args TB RL) (hX : va_X b Ls xs s s.heap) (hbl : b < s.heap.size) (hbA : ¬ Ag 73 ad b) (hG : gok D cI cR 73 KK LL ad s) (hP : wo D cI cR 73 KK LL ad μ H) (hS : va_S (Ag 73 ad) s.heap H locs) (hl : lv_has ls 4 [(0, .ref b), (1, .ref (ad 0)), (2, .ref (ad 56)), (3, .int (nI j))]) (hj : j + 5 ≤ Ls) (hLs : Ls ≤ 2560) (hcs : cells ≤ room_1.cells ∧ slots ≤ room_1.slots)
    (kk : ∀ (μ2 : Mem) (H : Heap) (locs : List Loc), Inv μ2 → wo D cI cR 73 KK LL ad μ2 H → va_S (Ag 73 ad) s.heap H locs → W p l e room_1 s m args below meth c H locs cells slots Q (F0 m 823 ls [])) : W p l e room_1 s m args below meth c H locs cells slots Q (F0 m 613 ls []) := by
  have hx := S.1
  have hb := S.2.1
  obtain ⟨r, μ1, μ2, h1, h2, hI2⟩ := HQ μ (sx xs j 1) hI
  refine lv_aload_n hx hb dL_law_613 rfl (lv_at hl 1 rfl) ?_
  refine lv_aload_n hx hb dL_law_614 rfl (lv_at hl 0 rfl) ?_
  refine lv_iload_n hx hb dL_law_615 rfl (lv_at hl 3 rfl) ?_
  refine lv_iconst (v := 1) hx hb dL_law_616 (by decide) ?_
  refine lv_iadd hx hb dL_law_617 ?_
  refine va_sld hx hb hX hbl hbA hS (l_in (k := 1) (by omega) hLs rfl) dL_law_618 ?_
  refine l_call (As := [.int (sx xs j 1)]) (rest := []) S hG hP hS mX8_settle kL_78 clX8 isk_0 (tX8_settle _ _ _ _ _ _ _ _ isk_0 (sx xs j 1)) ⟨rfl, rfl⟩ ⟨by decide, by decide⟩ h1 hl.1 rfl (Nat.le_of_ble_eq_true rfl) hcs dL_law_619 (fun H locs hP hS => ?_)
  refine lv_aload_n hx hb dL_law_622 rfl (lv_at hl 2 rfl) ?_
  refine lv_aload_n hx hb dL_law_623 rfl (lv_at hl 0 rfl) ?_
  refine lv_iload_n hx hb dL_law_624 rfl (lv_at hl 3 rfl) ?_
  refine lv_iconst (v := 1) hx hb dL_law_625 (by decide) ?_
  refine lv_iadd hx hb dL_law_626 ?_
  refine va_sld hx hb hX hbl hbA hS (l_in (k := 1) (by omega) hLs rfl) dL_law_627 ?_
  refine l_call (As := [.int (sx xs j 1)]) (rest := [.int r]) S hG hP hS mX9_settle kL_81 clX9 isk_56 (tX9_settle _ _ _ _ _ _ _ _ isk_56 (sx xs j 1)) ⟨rfl, rfl⟩ ⟨by decide, by decide⟩ h2 hl.1 rfl (Nat.le_of_ble_eq_true rfl) hcs dL_law_628 (fun H locs hP hS => ?_)
  refine lv_icmp_eq (tgt := 823) hx hb dL_law_631 (by decide) (fun _ => ?_) (fun h => absurd rfl h)
  exact kk μ2 H locs hI2 hP hS
set_option maxHeartbeats 4000000 in
set_option maxRecDepth 100000 in
theorem law_16 (HQ : Q_16 Inv) (hI : Inv μ) (S : CallFix p m c code 4 s args TB RL) (hX : va_X b Ls xs s s.heap) (hbl : b < s.heap.size) (hbA : ¬ Ag 73 ad b) (hG : gok D cI cR 73 KK LL ad s) (hP : wo D cI cR 73 KK LL ad μ H) (hS : va_S (Ag 73 ad) s.heap H locs) (hl : lv_has ls 4 [(0, .ref b), (1, .ref (ad 0)), (2, .ref (ad 56)), (3, .int (nI j))]) (hj : j + 5 ≤ Ls) (hLs : Ls ≤ 2560) (hcs : cells ≤ room_1.cells ∧ slots ≤ room_1.slots)
    (kk : ∀ (μ2 : Mem) (H : Heap) (locs : List Loc), Inv μ2 → wo D cI cR 73 KK LL ad μ2 H → va_S (Ag 73 ad) s.heap H locs → W p l e room_1 s m args below meth c H locs cells slots Q (F0 m 823 ls [])) : W p l e room_1 s m args below meth c H locs cells slots Q (F0 m 636 ls []) := by
  have hx := S.1
  have hb := S.2.1
  obtain ⟨r, μ1, μ2, h1, h2, hI2⟩ := HQ μ (sx xs j 1) hI
  refine lv_aload_n hx hb dL_law_636 rfl (lv_at hl 1 rfl) ?_
  refine lv_aload_n hx hb dL_law_637 rfl (lv_at hl 0 rfl) ?_
  refine lv_iload_n hx hb dL_law_638 rfl (lv_at hl 3 rfl) ?_
  refine lv_iconst (v := 1) hx hb dL_law_639 (by decide) ?_
  refine lv_iadd hx hb dL_law_640 ?_
  refine va_sld hx hb hX hbl hbA hS (l_in (k := 1) (by omega) hLs rfl) dL_law_641 ?_
  refine l_call (As := [.int (sx xs j 1)]) (rest := []) S hG hP hS mX8_bound kL_82 clX8 isk_0 (tX8_bound _ _ _ _ _ _ _ _ isk_0 (sx xs j 1)) ⟨rfl, rfl⟩ ⟨by decide, by decide⟩ h1 hl.1 rfl (Nat.le_of_ble_eq_true rfl) hcs dL_law_642 (fun H locs hP hS => ?_)
  refine lv_aload_n hx hb dL_law_645 rfl (lv_at hl 2 rfl) ?_
  refine lv_aload_n hx hb dL_law_646 rfl (lv_at hl 0 rfl) ?_
  refine lv_iload_n hx hb dL_law_647 rfl (lv_at hl 3 rfl) ?_
  refine lv_iconst (v := 1) hx hb dL_law_648 (by decide) ?_
  refine lv_iadd hx hb dL_law_649 ?_
  refine va_sld hx hb hX hbl hbA hS (l_in (k := 1) (by omega) hLs rfl) dL_law_650 ?_
  refine l_call (As := [.int (sx xs j 1)]) (rest := [.int r]) S hG hP hS mX9_bound kL_85 clX9 isk_56 (tX9_bound _ _ _ _ _ _ _ _ isk_56 (sx xs j 1)) ⟨rfl, rfl⟩ ⟨by decide, by decide⟩ h2 hl.1 rfl (Nat.le_of_ble_eq_true rfl) hcs dL_law_651 (fun H locs hP hS => ?_)
  refine lv_icmp_eq (tgt := 823) hx hb dL_law_654 (by decide) (fun _ => ?_) (fun h => absurd rfl h)
  exact kk μ2 H locs hI2 hP hS
set_option maxHeartbeats 4000000 in
set_option maxRecDepth 100000 in
theorem law_17 (HQ : Q_17 Inv) (hI : Inv μ) (S : CallFix p m c code 4 s args TB RL) (hX : va_X b Ls xs s s.heap) (hbl : b < s.heap.size) (hbA : ¬ Ag 73 ad b) (hG : gok D cI cR 73 KK LL ad s) (hP : wo D cI cR 73 KK LL ad μ H) (hS : va_S (Ag 73 ad) s.heap H locs) (hl : lv_has ls 4 [(0, .ref b), (1, .ref (ad 0)), (2, .ref (ad 56)), (3, .int (nI j))]) (hj : j + 5 ≤ Ls) (hLs : Ls ≤ 2560) (hcs : cells ≤ room_1.cells ∧ slots ≤ room_1.slots)
    (kk : ∀ (μ2 : Mem) (H : Heap) (locs : List Loc), Inv μ2 → wo D cI cR 73 KK LL ad μ2 H → va_S (Ag 73 ad) s.heap H locs → W p l e room_1 s m args below meth c H locs cells slots Q (F0 m 823 ls [])) : W p l e room_1 s m args below meth c H locs cells slots Q (F0 m 659 ls []) := by
  have hx := S.1
  have hb := S.2.1
  obtain ⟨r, μ1, μ2, h1, h2, hI2⟩ := HQ μ  hI
  refine lv_aload_n hx hb dL_law_659 rfl (lv_at hl 1 rfl) ?_
  refine l_call (As := []) (rest := []) S hG hP hS mX8_undo kL_86 clX8 isk_0 (tX8_undo _ _ _ _ _ _ _ _ isk_0 ) ⟨rfl, rfl⟩ ⟨by decide, by decide⟩ h1 hl.1 rfl (Nat.le_of_ble_eq_true rfl) hcs dL_law_660 (fun H locs hP hS => ?_)
  refine lv_aload_n hx hb dL_law_663 rfl (lv_at hl 2 rfl) ?_
  refine l_call (As := []) (rest := [.int r]) S hG hP hS mX9_undo kL_89 clX9 isk_56 (tX9_undo _ _ _ _ _ _ _ _ isk_56 ) ⟨rfl, rfl⟩ ⟨by decide, by decide⟩ h2 hl.1 rfl (Nat.le_of_ble_eq_true rfl) hcs dL_law_664 (fun H locs hP hS => ?_)
  refine lv_icmp_eq (tgt := 823) hx hb dL_law_667 (by decide) (fun _ => ?_) (fun h => absurd rfl h)
  exact kk μ2 H locs hI2 hP hS
set_option maxHeartbeats 4000000 in
set_option maxRecDepth 100000 in
theorem law_18 (HQ : Q_18 Inv) (hI : Inv μ) (S : CallFix p m c code 4 s args TB RL) (hX : va_X b Ls xs s s.heap) (hbl : b < s.heap.size) (hbA : ¬ Ag 73 ad b) (hG : gok D cI cR 73 KK LL ad s) (hP : wo D cI cR 73 KK LL ad μ H) (hS : va_S (Ag 73 ad) s.heap H locs) (hl : lv_has ls 4 [(0, .ref b), (1, .ref (ad 0)), (2, .ref (ad 56)), (3, .int (nI j))]) (hj : j + 5 ≤ Ls) (hLs : Ls ≤ 2560) (hcs : cells ≤ room_1.cells ∧ slots ≤ room_1.slots)
    (kk : ∀ (μ2 : Mem) (H : Heap) (locs : List Loc), Inv μ2 → wo D cI cR 73 KK LL ad μ2 H → va_S (Ag 73 ad) s.heap H locs → W p l e room_1 s m args below meth c H locs cells slots Q (F0 m 823 ls [])) : W p l e room_1 s m args below meth c H locs cells slots Q (F0 m 672 ls []) := by
  have hx := S.1
  have hb := S.2.1
  obtain ⟨r, μ1, μ2, h1, h2, hI2⟩ := HQ μ (sx xs j 1) hI
  refine lv_aload_n hx hb dL_law_672 rfl (lv_at hl 1 rfl) ?_
  refine lv_aload_n hx hb dL_law_673 rfl (lv_at hl 0 rfl) ?_
  refine lv_iload_n hx hb dL_law_674 rfl (lv_at hl 3 rfl) ?_
  refine lv_iconst (v := 1) hx hb dL_law_675 (by decide) ?_
  refine lv_iadd hx hb dL_law_676 ?_
  refine va_sld hx hb hX hbl hbA hS (l_in (k := 1) (by omega) hLs rfl) dL_law_677 ?_
  refine l_call (As := [.int (sx xs j 1)]) (rest := []) S hG hP hS mX8_best kL_90 clX8 isk_0 (tX8_best _ _ _ _ _ _ _ _ isk_0 (sx xs j 1)) ⟨rfl, rfl⟩ ⟨by decide, by decide⟩ h1 hl.1 rfl (Nat.le_of_ble_eq_true rfl) hcs dL_law_678 (fun H locs hP hS => ?_)
  refine lv_aload_n hx hb dL_law_681 rfl (lv_at hl 2 rfl) ?_
  refine lv_aload_n hx hb dL_law_682 rfl (lv_at hl 0 rfl) ?_
  refine lv_iload_n hx hb dL_law_683 rfl (lv_at hl 3 rfl) ?_
  refine lv_iconst (v := 1) hx hb dL_law_684 (by decide) ?_
  refine lv_iadd hx hb dL_law_685 ?_
  refine va_sld hx hb hX hbl hbA hS (l_in (k := 1) (by omega) hLs rfl) dL_law_686 ?_
  refine l_call (As := [.int (sx xs j 1)]) (rest := [.int r]) S hG hP hS mX9_best kL_93 clX9 isk_56 (tX9_best _ _ _ _ _ _ _ _ isk_56 (sx xs j 1)) ⟨rfl, rfl⟩ ⟨by decide, by decide⟩ h2 hl.1 rfl (Nat.le_of_ble_eq_true rfl) hcs dL_law_687 (fun H locs hP hS => ?_)
  refine lv_icmp_eq (tgt := 823) hx hb dL_law_690 (by decide) (fun _ => ?_) (fun h => absurd rfl h)
  exact kk μ2 H locs hI2 hP hS
set_option maxHeartbeats 4000000 in
set_option maxRecDepth 100000 in
theorem law_19 (HQ : Q_19 Inv) (hI : Inv μ) (S : CallFix p m c code 4 s args TB RL) (hX : va_X b Ls xs s s.heap) (hbl : b < s.heap.size) (hbA : ¬ Ag 73 ad b) (hG : gok D cI cR 73 KK LL ad s) (hP : wo D cI cR 73 KK LL ad μ H) (hS : va_S (Ag 73 ad) s.heap H locs) (hl : lv_has ls 4 [(0, .ref b), (1, .ref (ad 0)), (2, .ref (ad 56)), (3, .int (nI j))]) (hj : j + 5 ≤ Ls) (hLs : Ls ≤ 2560) (hcs : cells ≤ room_1.cells ∧ slots ≤ room_1.slots)
    (kk : ∀ (μ2 : Mem) (H : Heap) (locs : List Loc), Inv μ2 → wo D cI cR 73 KK LL ad μ2 H → va_S (Ag 73 ad) s.heap H locs → W p l e room_1 s m args below meth c H locs cells slots Q (F0 m 823 ls [])) : W p l e room_1 s m args below meth c H locs cells slots Q (F0 m 695 ls []) := by
  have hx := S.1
  have hb := S.2.1
  obtain ⟨r, μ1, μ2, h1, h2, hI2⟩ := HQ μ (sx xs j 1) hI
  refine lv_aload_n hx hb dL_law_695 rfl (lv_at hl 1 rfl) ?_
  refine lv_aload_n hx hb dL_law_696 rfl (lv_at hl 0 rfl) ?_
  refine lv_iload_n hx hb dL_law_697 rfl (lv_at hl 3 rfl) ?_
  refine lv_iconst (v := 1) hx hb dL_law_698 (by decide) ?_
  refine lv_iadd hx hb dL_law_699 ?_
  refine va_sld hx hb hX hbl hbA hS (l_in (k := 1) (by omega) hLs rfl) dL_law_700 ?_
  refine l_call (As := [.int (sx xs j 1)]) (rest := []) S hG hP hS mX8_next kL_94 clX8 isk_0 (tX8_next _ _ _ _ _ _ _ _ isk_0 (sx xs j 1)) ⟨rfl, rfl⟩ ⟨by decide, by decide⟩ h1 hl.1 rfl (Nat.le_of_ble_eq_true rfl) hcs dL_law_701 (fun H locs hP hS => ?_)
  refine lv_aload_n hx hb dL_law_704 rfl (lv_at hl 2 rfl) ?_
  refine lv_aload_n hx hb dL_law_705 rfl (lv_at hl 0 rfl) ?_
  refine lv_iload_n hx hb dL_law_706 rfl (lv_at hl 3 rfl) ?_
  refine lv_iconst (v := 1) hx hb dL_law_707 (by decide) ?_
  refine lv_iadd hx hb dL_law_708 ?_
  refine va_sld hx hb hX hbl hbA hS (l_in (k := 1) (by omega) hLs rfl) dL_law_709 ?_
  refine l_call (As := [.int (sx xs j 1)]) (rest := [.int r]) S hG hP hS mX9_next kL_97 clX9 isk_56 (tX9_next _ _ _ _ _ _ _ _ isk_56 (sx xs j 1)) ⟨rfl, rfl⟩ ⟨by decide, by decide⟩ h2 hl.1 rfl (Nat.le_of_ble_eq_true rfl) hcs dL_law_710 (fun H locs hP hS => ?_)
  refine lv_icmp_eq (tgt := 823) hx hb dL_law_713 (by decide) (fun _ => ?_) (fun h => absurd rfl h)
  exact kk μ2 H locs hI2 hP hS
set_option maxHeartbeats 4000000 in
set_option maxRecDepth 100000 in
theorem law_20 (HQ : Q_20 Inv) (hI : Inv μ) (S : CallFix p m c code 4 s args TB RL) (hX : va_X b Ls xs s s.heap) (hbl : b < s.heap.size) (hbA : ¬ Ag 73 ad b) (hG : gok D cI cR 73 KK LL ad s) (hP : wo D cI cR 73 KK LL ad μ H) (hS : va_S (Ag 73 ad) s.heap H locs) (hl : lv_has ls 4 [(0, .ref b), (1, .ref (ad 0)), (2, .ref (ad 56)), (3, .int (nI j))]) (hj : j + 5 ≤ Ls) (hLs : Ls ≤ 2560) (hcs : cells ≤ room_1.cells ∧ slots ≤ room_1.slots)
    (kk : ∀ (μ2 : Mem) (H : Heap) (locs : List Loc), Inv μ2 → wo D cI cR 73 KK LL ad μ2 H → va_S (Ag 73 ad) s.heap H locs → W p l e room_1 s m args below meth c H locs cells slots Q (F0 m 823 ls [])) : W p l e room_1 s m args below meth c H locs cells slots Q (F0 m 718 ls []) := by
  have hx := S.1
  have hb := S.2.1
  obtain ⟨r, μ1, μ2, h1, h2, hI2⟩ := HQ μ  hI
  refine lv_aload_n hx hb dL_law_718 rfl (lv_at hl 1 rfl) ?_
  refine l_call (As := []) (rest := []) S hG hP hS mX8_backbone kL_98 clX8 isk_0 (tX8_backbone _ _ _ _ _ _ _ _ isk_0 ) ⟨rfl, rfl⟩ ⟨by decide, by decide⟩ h1 hl.1 rfl (Nat.le_of_ble_eq_true rfl) hcs dL_law_719 (fun H locs hP hS => ?_)
  refine lv_aload_n hx hb dL_law_722 rfl (lv_at hl 2 rfl) ?_
  refine l_call (As := []) (rest := [.int r]) S hG hP hS mX9_backbone kL_101 clX9 isk_56 (tX9_backbone _ _ _ _ _ _ _ _ isk_56 ) ⟨rfl, rfl⟩ ⟨by decide, by decide⟩ h2 hl.1 rfl (Nat.le_of_ble_eq_true rfl) hcs dL_law_723 (fun H locs hP hS => ?_)
  refine lv_icmp_eq (tgt := 823) hx hb dL_law_726 (by decide) (fun _ => ?_) (fun h => absurd rfl h)
  exact kk μ2 H locs hI2 hP hS
set_option maxHeartbeats 4000000 in
set_option maxRecDepth 100000 in
theorem law_21 (HQ : Q_21 Inv) (hI : Inv μ) (S : CallFix p m c code 4 s args TB RL) (hX : va_X b Ls xs s s.heap) (hbl : b < s.heap.size) (hbA : ¬ Ag 73 ad b) (hG : gok D cI cR 73 KK LL ad s) (hP : wo D cI cR 73 KK LL ad μ H) (hS : va_S (Ag 73 ad) s.heap H locs) (hl : lv_has ls 4 [(0, .ref b), (1, .ref (ad 0)), (2, .ref (ad 56)), (3, .int (nI j))]) (hj : j + 5 ≤ Ls) (hLs : Ls ≤ 2560) (hcs : cells ≤ room_1.cells ∧ slots ≤ room_1.slots)
    (kk : ∀ (μ2 : Mem) (H : Heap) (locs : List Loc), Inv μ2 → wo D cI cR 73 KK LL ad μ2 H → va_S (Ag 73 ad) s.heap H locs → W p l e room_1 s m args below meth c H locs cells slots Q (F0 m 823 ls [])) : W p l e room_1 s m args below meth c H locs cells slots Q (F0 m 731 ls []) := by
  have hx := S.1
  have hb := S.2.1
  obtain ⟨r, μ1, μ2, h1, h2, hI2⟩ := HQ μ (sx xs j 1) (sx xs j 2) hI
  refine lv_aload_n hx hb dL_law_731 rfl (lv_at hl 1 rfl) ?_
  refine lv_aload_n hx hb dL_law_732 rfl (lv_at hl 0 rfl) ?_
  refine lv_iload_n hx hb dL_law_733 rfl (lv_at hl 3 rfl) ?_
  refine lv_iconst (v := 1) hx hb dL_law_734 (by decide) ?_
  refine lv_iadd hx hb dL_law_735 ?_
  refine va_sld hx hb hX hbl hbA hS (l_in (k := 1) (by omega) hLs rfl) dL_law_736 ?_
  refine lv_aload_n hx hb dL_law_737 rfl (lv_at hl 0 rfl) ?_
  refine lv_iload_n hx hb dL_law_738 rfl (lv_at hl 3 rfl) ?_
  refine lv_iconst (v := 2) hx hb dL_law_739 (by decide) ?_
  refine lv_iadd hx hb dL_law_740 ?_
  refine va_sld hx hb hX hbl hbA hS (l_in (k := 2) (by omega) hLs rfl) dL_law_741 ?_
  refine l_call (As := [.int (sx xs j 1), .int (sx xs j 2)]) (rest := []) S hG hP hS mX8_with kL_102 clX8 isk_0 (tX8_with _ _ _ _ _ _ _ _ isk_0 (sx xs j 1) (sx xs j 2)) ⟨rfl, rfl⟩ ⟨by decide, by decide⟩ h1 hl.1 rfl (Nat.le_of_ble_eq_true rfl) hcs dL_law_742 (fun H locs hP hS => ?_)
  refine lv_aload_n hx hb dL_law_745 rfl (lv_at hl 2 rfl) ?_
  refine lv_aload_n hx hb dL_law_746 rfl (lv_at hl 0 rfl) ?_
  refine lv_iload_n hx hb dL_law_747 rfl (lv_at hl 3 rfl) ?_
  refine lv_iconst (v := 1) hx hb dL_law_748 (by decide) ?_
  refine lv_iadd hx hb dL_law_749 ?_
  refine va_sld hx hb hX hbl hbA hS (l_in (k := 1) (by omega) hLs rfl) dL_law_750 ?_
  refine lv_aload_n hx hb dL_law_751 rfl (lv_at hl 0 rfl) ?_
  refine lv_iload_n hx hb dL_law_752 rfl (lv_at hl 3 rfl) ?_
  refine lv_iconst (v := 2) hx hb dL_law_753 (by decide) ?_
  refine lv_iadd hx hb dL_law_754 ?_
  refine va_sld hx hb hX hbl hbA hS (l_in (k := 2) (by omega) hLs rfl) dL_law_755 ?_
  refine l_call (As := [.int (sx xs j 1), .int (sx xs j 2)]) (rest := [.int r]) S hG hP hS mX9_with kL_105 clX9 isk_56 (tX9_with _ _ _ _ _ _ _ _ isk_56 (sx xs j 1) (sx xs j 2)) ⟨rfl, rfl⟩ ⟨by decide, by decide⟩ h2 hl.1 rfl (Nat.le_of_ble_eq_true rfl) hcs dL_law_756 (fun H locs hP hS => ?_)
  refine lv_icmp_eq (tgt := 823) hx hb dL_law_759 (by decide) (fun _ => ?_) (fun h => absurd rfl h)
  exact kk μ2 H locs hI2 hP hS
set_option maxHeartbeats 4000000 in
set_option maxRecDepth 100000 in
theorem law_22 (HQ : Q_22 Inv) (hI : Inv μ) (S : CallFix p m c code 4 s args TB RL) (hX : va_X b Ls xs s s.heap) (hbl : b < s.heap.size) (hbA : ¬ Ag 73 ad b) (hG : gok D cI cR 73 KK LL ad s) (hP : wo D cI cR 73 KK LL ad μ H) (hS : va_S (Ag 73 ad) s.heap H locs) (hl : lv_has ls 4 [(0, .ref b), (1, .ref (ad 0)), (2, .ref (ad 56)), (3, .int (nI j))]) (hj : j + 5 ≤ Ls) (hLs : Ls ≤ 2560) (hcs : cells ≤ room_1.cells ∧ slots ≤ room_1.slots)
    (kk : ∀ (μ2 : Mem) (H : Heap) (locs : List Loc), Inv μ2 → wo D cI cR 73 KK LL ad μ2 H → va_S (Ag 73 ad) s.heap H locs → W p l e room_1 s m args below meth c H locs cells slots Q (F0 m 823 ls [])) : W p l e room_1 s m args below meth c H locs cells slots Q (F0 m 764 ls []) := by
  have hx := S.1
  have hb := S.2.1
  obtain ⟨r, μ1, μ2, h1, h2, hI2⟩ := HQ μ (sx xs j 1) hI
  refine lv_aload_n hx hb dL_law_764 rfl (lv_at hl 1 rfl) ?_
  refine lv_aload_n hx hb dL_law_765 rfl (lv_at hl 0 rfl) ?_
  refine lv_iload_n hx hb dL_law_766 rfl (lv_at hl 3 rfl) ?_
  refine lv_iconst (v := 1) hx hb dL_law_767 (by decide) ?_
  refine lv_iadd hx hb dL_law_768 ?_
  refine va_sld hx hb hX hbl hbA hS (l_in (k := 1) (by omega) hLs rfl) dL_law_769 ?_
  refine l_call (As := [.int (sx xs j 1)]) (rest := []) S hG hP hS mX8_without kL_106 clX8 isk_0 (tX8_without _ _ _ _ _ _ _ _ isk_0 (sx xs j 1)) ⟨rfl, rfl⟩ ⟨by decide, by decide⟩ h1 hl.1 rfl (Nat.le_of_ble_eq_true rfl) hcs dL_law_770 (fun H locs hP hS => ?_)
  refine lv_aload_n hx hb dL_law_773 rfl (lv_at hl 2 rfl) ?_
  refine lv_aload_n hx hb dL_law_774 rfl (lv_at hl 0 rfl) ?_
  refine lv_iload_n hx hb dL_law_775 rfl (lv_at hl 3 rfl) ?_
  refine lv_iconst (v := 1) hx hb dL_law_776 (by decide) ?_
  refine lv_iadd hx hb dL_law_777 ?_
  refine va_sld hx hb hX hbl hbA hS (l_in (k := 1) (by omega) hLs rfl) dL_law_778 ?_
  refine l_call (As := [.int (sx xs j 1)]) (rest := [.int r]) S hG hP hS mX9_without kL_109 clX9 isk_56 (tX9_without _ _ _ _ _ _ _ _ isk_56 (sx xs j 1)) ⟨rfl, rfl⟩ ⟨by decide, by decide⟩ h2 hl.1 rfl (Nat.le_of_ble_eq_true rfl) hcs dL_law_779 (fun H locs hP hS => ?_)
  refine lv_icmp_eq (tgt := 823) hx hb dL_law_782 (by decide) (fun _ => ?_) (fun h => absurd rfl h)
  exact kk μ2 H locs hI2 hP hS
set_option maxHeartbeats 4000000 in
set_option maxRecDepth 100000 in
theorem law_23 (HQ : Q_23 Inv) (hI : Inv μ) (S : CallFix p m c code 4 s args TB RL) (hX : va_X b Ls xs s s.heap) (hbl : b < s.heap.size) (hbA : ¬ Ag 73 ad b) (hG : gok D cI cR 73 KK LL ad s) (hP : wo D cI cR 73 KK LL ad μ H) (hS : va_S (Ag 73 ad) s.heap H locs) (hl : lv_has ls 4 [(0, .ref b), (1, .ref (ad 0)), (2, .ref (ad 56)), (3, .int (nI j))]) (hj : j + 5 ≤ Ls) (hLs : Ls ≤ 2560) (hcs : cells ≤ room_1.cells ∧ slots ≤ room_1.slots)
    (kk : ∀ (μ2 : Mem) (H : Heap) (locs : List Loc), Inv μ2 → wo D cI cR 73 KK LL ad μ2 H → va_S (Ag 73 ad) s.heap H locs → W p l e room_1 s m args below meth c H locs cells slots Q (F0 m 823 ls [])) : W p l e room_1 s m args below meth c H locs cells slots Q (F0 m 787 ls []) := by
  have hx := S.1
  have hb := S.2.1
  obtain ⟨r, μ1, μ2, h1, h2, hI2⟩ := HQ μ  hI
  refine lv_aload_n hx hb dL_law_787 rfl (lv_at hl 1 rfl) ?_
  refine l_call (As := []) (rest := []) S hG hP hS mX8_tries kL_110 clX8 isk_0 (tX8_tries _ _ _ _ _ _ _ _ isk_0 ) ⟨rfl, rfl⟩ ⟨by decide, by decide⟩ h1 hl.1 rfl (Nat.le_of_ble_eq_true rfl) hcs dL_law_788 (fun H locs hP hS => ?_)
  refine lv_aload_n hx hb dL_law_791 rfl (lv_at hl 2 rfl) ?_
  refine l_call (As := []) (rest := [.int r]) S hG hP hS mX9_tries kL_113 clX9 isk_56 (tX9_tries _ _ _ _ _ _ _ _ isk_56 ) ⟨rfl, rfl⟩ ⟨by decide, by decide⟩ h2 hl.1 rfl (Nat.le_of_ble_eq_true rfl) hcs dL_law_792 (fun H locs hP hS => ?_)
  refine lv_icmp_eq (tgt := 823) hx hb dL_law_795 (by decide) (fun _ => ?_) (fun h => absurd rfl h)
  exact kk μ2 H locs hI2 hP hS
set_option maxHeartbeats 4000000 in
set_option maxRecDepth 100000 in
theorem law_24 (HQ : Q_24 Inv) (hI : Inv μ) (S : CallFix p m c code 4 s args TB RL) (hX : va_X b Ls xs s s.heap) (hbl : b < s.heap.size) (hbA : ¬ Ag 73 ad b) (hG : gok D cI cR 73 KK LL ad s) (hP : wo D cI cR 73 KK LL ad μ H) (hS : va_S (Ag 73 ad) s.heap H locs) (hl : lv_has ls 4 [(0, .ref b), (1, .ref (ad 0)), (2, .ref (ad 56)), (3, .int (nI j))]) (hj : j + 5 ≤ Ls) (hLs : Ls ≤ 2560) (hcs : cells ≤ room_1.cells ∧ slots ≤ room_1.slots)
    (kk : ∀ (μ2 : Mem) (H : Heap) (locs : List Loc), Inv μ2 → wo D cI cR 73 KK LL ad μ2 H → va_S (Ag 73 ad) s.heap H locs → W p l e room_1 s m args below meth c H locs cells slots Q (F0 m 823 ls [])) : W p l e room_1 s m args below meth c H locs cells slots Q (F0 m 800 ls []) := by
  have hx := S.1
  have hb := S.2.1
  obtain ⟨r, μ1, μ2, h1, h2, hI2⟩ := HQ μ (sx xs j 1) hI
  refine lv_aload_n hx hb dL_law_800 rfl (lv_at hl 1 rfl) ?_
  refine lv_aload_n hx hb dL_law_801 rfl (lv_at hl 0 rfl) ?_
  refine lv_iload_n hx hb dL_law_802 rfl (lv_at hl 3 rfl) ?_
  refine lv_iconst (v := 1) hx hb dL_law_803 (by decide) ?_
  refine lv_iadd hx hb dL_law_804 ?_
  refine va_sld hx hb hX hbl hbA hS (l_in (k := 1) (by omega) hLs rfl) dL_law_805 ?_
  refine l_call (As := [.int (sx xs j 1)]) (rest := []) S hG hP hS mX8_count kL_114 clX8 isk_0 (tX8_count _ _ _ _ _ _ _ _ isk_0 (sx xs j 1)) ⟨rfl, rfl⟩ ⟨by decide, by decide⟩ h1 hl.1 rfl (Nat.le_of_ble_eq_true rfl) hcs dL_law_806 (fun H locs hP hS => ?_)
  refine lv_aload_n hx hb dL_law_809 rfl (lv_at hl 2 rfl) ?_
  refine lv_aload_n hx hb dL_law_810 rfl (lv_at hl 0 rfl) ?_
  refine lv_iload_n hx hb dL_law_811 rfl (lv_at hl 3 rfl) ?_
  refine lv_iconst (v := 1) hx hb dL_law_812 (by decide) ?_
  refine lv_iadd hx hb dL_law_813 ?_
  refine va_sld hx hb hX hbl hbA hS (l_in (k := 1) (by omega) hLs rfl) dL_law_814 ?_
  refine l_call (As := [.int (sx xs j 1)]) (rest := [.int r]) S hG hP hS mX9_count kL_117 clX9 isk_56 (tX9_count _ _ _ _ _ _ _ _ isk_56 (sx xs j 1)) ⟨rfl, rfl⟩ ⟨by decide, by decide⟩ h2 hl.1 rfl (Nat.le_of_ble_eq_true rfl) hcs dL_law_815 (fun H locs hP hS => ?_)
  refine lv_icmp_eq (tgt := 823) hx hb dL_law_818 (by decide) (fun _ => ?_) (fun h => absurd rfl h)
  exact kk μ2 H locs hI2 hP hS
end LAWC
theorem l_gt {L j : Nat} (hL : L ≤ 2560) (hj : j ≤ L) : nI L - 5 < nI j ↔ L < j + 5 := by
  rw [Int32.lt_iff_toInt_lt, show (5 : Int32) = nI 5 from rfl, pk_sub_toInt (by omega) (by omega), nI_toInt (by omega)]
  omega
set_option maxHeartbeats 4000000 in
set_option maxRecDepth 100000 in
theorem law_loop {p : Program} {l : Launch} {e : Env} {s : State} {m : MethodId} {below : List Frame} {meth : Method} {c : Code} {D : va_G} {cI cR : ClassId} {ad : Nat → Nat} {b Ls : Nat} {xs : Nat → Int32} {Inv : Mem → Prop} {cells slots : Nat} (HQ : AllQ Inv) (hLs : Ls ≤ 2560) (C0 : lw_At p s m meth c b Ls xs) (hA : ∀ k, k < 73 → s.heap.size ≤ ad k) (hG : gok D cI cR 73 KK LL ad s) (hcs : cells ≤ 600000 ∧ slots ≤ 7302250) :
    ∀ (r j : Nat) (μ : Mem) (H : Heap) (locs : List Loc) (ls : Array Slot), j ≤ Ls → Ls < j + r → Inv μ → wo D cI cR 73 KK LL ad μ H → va_S (Ag 73 ad) s.heap H locs → lv_has ls 4 [(0, .ref b), (1, .ref (ad 0)), (2, .ref (ad 56)), (3, .int (nI j))] → W p l e room_1 s m #[Value.ref b] below meth c H locs cells slots (lw_Z below #[Value.ref b] s) (F0 m 18 ls []) := by
  obtain ⟨hx, hb, hr, hml, hown, hts, hX, hbl, hlocks, hgv⟩ := C0
  have S : CallFix p m c code 4 s #[Value.ref b] TB RL := ⟨hx, hb, hml, hown, fun w hw => hts w (tb_in hw)⟩
  have hbA : ¬ Ag 73 ad b := fun ⟨k, h1, h2⟩ => by have := hA k h1; omega
  have hcs2 : cells ≤ room_1.cells ∧ slots ≤ room_1.slots := hcs
  intro r
  induction r with
  | zero => intro j μ H locs ls h1 h2; omega
  | succ r ih =>
    intro j μ H locs ls h1 h2 hI hP hS hl
    refine lv_iload_n hx hb dL_law_18 rfl (lv_at hl 3 rfl) ?_
    refine lv_aload_n hx hb dL_law_19 rfl (lv_at hl 0 rfl) ?_
    refine va_slen hx hb hX hbl hbA hS dL_law_20 ?_
    refine lv_iconst (v := 5) hx hb dL_law_21 (by decide) ?_
    refine lv_isub hx hb dL_law_22 ?_
    refine lv_icmp_gt (tgt := 829) hx hb dL_law_23 (by decide) (fun _ => ?_) (fun hgt => ?_)
    · refine lv_iconst (v := 1) hx hb dL_law_829 (by decide) ?_
      refine va_forget (fun q hq => by obtain ⟨k, h1, h2⟩ := hS.2.2 q hq; rw [h2]; exact hA k h1) ?_
      refine W.widen (k := 600000) (n := 7302250) hcs.1 hcs.2 ?_
      exact lw_ret hx hb hr hlocks dL_law_830
    · have hj : j + 5 ≤ Ls := by
        rcases Nat.lt_or_ge Ls (j + 5) with h | h
        · exact absurd ((l_gt hLs h1).mpr h) hgt
        · exact h
      have next : ∀ (μ2 : Mem) (H : Heap) (locs : List Loc), Inv μ2 → wo D cI cR 73 KK LL ad μ2 H → va_S (Ag 73 ad) s.heap H locs → W p l e room_1 s m #[Value.ref b] below meth c H locs cells slots (lw_Z below #[Value.ref b] s) (F0 m 823 ls []) := by
        intro μ2 H locs hI2 hP hS
        refine lv_iinc (v := nI (j + 5)) (lv' := [(3, .int (nI (j + 5))), (0, .ref b), (1, .ref (ad 0)), (2, .ref (ad 56))]) hx hb dL_law_823 hl (k := 3) rfl (by rw [show Int32.ofInt 5 = nI 5 from rfl, nI_add]) (by decide) rfl (fun ls hl => ?_)
        refine lv_goto (tgt := 18) hx hb dL_law_826 (by decide) ?_
        exact ih (j + 5) μ2 H locs ls hj (by omega) hI2 hP hS (lv_sub hl [1, 2, 3, 0] rfl)
      refine lv_aload_n hx hb dL_law_26 rfl (lv_at hl 0 rfl) ?_
      refine lv_iload_n hx hb dL_law_27 rfl (lv_at hl 3 rfl) ?_
      refine va_sld hx hb hX hbl hbA hS (vp_in_nI (by omega) (by omega)) dL_law_28 ?_
      refine lv_bipush (v := 31) hx hb dL_law_29 (by decide) ?_
      refine lv_iand hx hb dL_law_31 ?_
      refine lv_topi (fun z _ => ?_)
      obtain ⟨q0, q1, q2, q3, q4, q5, q6, q7, q8, q9, q10, q11, q12, q13, q14, q15, q16, q17, q18, q19, q20, q21, q22, q23, q24⟩ := HQ
      by_cases z0 : z = (0 : Int32)
      · refine lv_tableIn (off := 116) (tgt := 148) hx hb dL_law_32 (by rw [z0] <;> decide) (by rw [z0] <;> decide) (by rw [z0] <;> rfl) (by decide) ?_
        exact law_0 q0 hI S hX hbl hbA hG hP hS hl hj hLs hcs2 next
      by_cases z1 : z = (1 : Int32)
      · refine lv_tableIn (off := 139) (tgt := 171) hx hb dL_law_32 (by rw [z1] <;> decide) (by rw [z1] <;> decide) (by rw [z1] <;> rfl) (by decide) ?_
        exact law_1 q1 hI S hX hbl hbA hG hP hS hl hj hLs hcs2 next
      by_cases z2 : z = (2 : Int32)
      · refine lv_tableIn (off := 152) (tgt := 184) hx hb dL_law_32 (by rw [z2] <;> decide) (by rw [z2] <;> decide) (by rw [z2] <;> rfl) (by decide) ?_
        exact law_2 q2 hI S hX hbl hbA hG hP hS hl hj hLs hcs2 next
      by_cases z3 : z = (3 : Int32)
      · refine lv_tableIn (off := 165) (tgt := 197) hx hb dL_law_32 (by rw [z3] <;> decide) (by rw [z3] <;> decide) (by rw [z3] <;> rfl) (by decide) ?_
        exact law_3 q3 hI S hX hbl hbA hG hP hS hl hj hLs hcs2 next
      by_cases z4 : z = (4 : Int32)
      · refine lv_tableIn (off := 178) (tgt := 210) hx hb dL_law_32 (by rw [z4] <;> decide) (by rw [z4] <;> decide) (by rw [z4] <;> rfl) (by decide) ?_
        exact law_4 q4 hI S hX hbl hbA hG hP hS hl hj hLs hcs2 next
      by_cases z5 : z = (5 : Int32)
      · refine lv_tableIn (off := 211) (tgt := 243) hx hb dL_law_32 (by rw [z5] <;> decide) (by rw [z5] <;> decide) (by rw [z5] <;> rfl) (by decide) ?_
        exact law_5 q5 hI S hX hbl hbA hG hP hS hl hj hLs hcs2 next
      by_cases z6 : z = (6 : Int32)
      · refine lv_tableIn (off := 244) (tgt := 276) hx hb dL_law_32 (by rw [z6] <;> decide) (by rw [z6] <;> decide) (by rw [z6] <;> rfl) (by decide) ?_
        exact law_6 q6 hI S hX hbl hbA hG hP hS hl hj hLs hcs2 next
      by_cases z7 : z = (7 : Int32)
      · refine lv_tableIn (off := 277) (tgt := 309) hx hb dL_law_32 (by rw [z7] <;> decide) (by rw [z7] <;> decide) (by rw [z7] <;> rfl) (by decide) ?_
        exact law_7 q7 hI S hX hbl hbA hG hP hS hl hj hLs hcs2 next
      by_cases z8 : z = (8 : Int32)
      · refine lv_tableIn (off := 320) (tgt := 352) hx hb dL_law_32 (by rw [z8] <;> decide) (by rw [z8] <;> decide) (by rw [z8] <;> rfl) (by decide) ?_
        exact law_8 q8 hI S hX hbl hbA hG hP hS hl hj hLs hcs2 next
      by_cases z9 : z = (9 : Int32)
      · refine lv_tableIn (off := 363) (tgt := 395) hx hb dL_law_32 (by rw [z9] <;> decide) (by rw [z9] <;> decide) (by rw [z9] <;> rfl) (by decide) ?_
        exact law_9 q9 hI S hX hbl hbA hG hP hS hl hj hLs hcs2 next
      by_cases z10 : z = (10 : Int32)
      · refine lv_tableIn (off := 396) (tgt := 428) hx hb dL_law_32 (by rw [z10] <;> decide) (by rw [z10] <;> decide) (by rw [z10] <;> rfl) (by decide) ?_
        exact law_10 q10 hI S hX hbl hbA hG hP hS hl hj hLs hcs2 next
      by_cases z11 : z = (11 : Int32)
      · refine lv_tableIn (off := 409) (tgt := 441) hx hb dL_law_32 (by rw [z11] <;> decide) (by rw [z11] <;> decide) (by rw [z11] <;> rfl) (by decide) ?_
        exact law_11 q11 hI S hX hbl hbA hG hP hS hl hj hLs hcs2 next
      by_cases z12 : z = (12 : Int32)
      · refine lv_tableIn (off := 462) (tgt := 494) hx hb dL_law_32 (by rw [z12] <;> decide) (by rw [z12] <;> decide) (by rw [z12] <;> rfl) (by decide) ?_
        exact law_12 q12 hI S hX hbl hbA hG hP hS hl hj hLs hcs2 next
      by_cases z13 : z = (13 : Int32)
      · refine lv_tableIn (off := 515) (tgt := 547) hx hb dL_law_32 (by rw [z13] <;> decide) (by rw [z13] <;> decide) (by rw [z13] <;> rfl) (by decide) ?_
        exact law_13 q13 hI S hX hbl hbA hG hP hS hl hj hLs hcs2 next
      by_cases z14 : z = (14 : Int32)
      · refine lv_tableIn (off := 548) (tgt := 580) hx hb dL_law_32 (by rw [z14] <;> decide) (by rw [z14] <;> decide) (by rw [z14] <;> rfl) (by decide) ?_
        exact law_14 q14 hI S hX hbl hbA hG hP hS hl hj hLs hcs2 next
      by_cases z15 : z = (15 : Int32)
      · refine lv_tableIn (off := 581) (tgt := 613) hx hb dL_law_32 (by rw [z15] <;> decide) (by rw [z15] <;> decide) (by rw [z15] <;> rfl) (by decide) ?_
        exact law_15 q15 hI S hX hbl hbA hG hP hS hl hj hLs hcs2 next
      by_cases z16 : z = (16 : Int32)
      · refine lv_tableIn (off := 604) (tgt := 636) hx hb dL_law_32 (by rw [z16] <;> decide) (by rw [z16] <;> decide) (by rw [z16] <;> rfl) (by decide) ?_
        exact law_16 q16 hI S hX hbl hbA hG hP hS hl hj hLs hcs2 next
      by_cases z17 : z = (17 : Int32)
      · refine lv_tableIn (off := 627) (tgt := 659) hx hb dL_law_32 (by rw [z17] <;> decide) (by rw [z17] <;> decide) (by rw [z17] <;> rfl) (by decide) ?_
        exact law_17 q17 hI S hX hbl hbA hG hP hS hl hj hLs hcs2 next
      by_cases z18 : z = (18 : Int32)
      · refine lv_tableIn (off := 640) (tgt := 672) hx hb dL_law_32 (by rw [z18] <;> decide) (by rw [z18] <;> decide) (by rw [z18] <;> rfl) (by decide) ?_
        exact law_18 q18 hI S hX hbl hbA hG hP hS hl hj hLs hcs2 next
      by_cases z19 : z = (19 : Int32)
      · refine lv_tableIn (off := 663) (tgt := 695) hx hb dL_law_32 (by rw [z19] <;> decide) (by rw [z19] <;> decide) (by rw [z19] <;> rfl) (by decide) ?_
        exact law_19 q19 hI S hX hbl hbA hG hP hS hl hj hLs hcs2 next
      by_cases z20 : z = (20 : Int32)
      · refine lv_tableIn (off := 686) (tgt := 718) hx hb dL_law_32 (by rw [z20] <;> decide) (by rw [z20] <;> decide) (by rw [z20] <;> rfl) (by decide) ?_
        exact law_20 q20 hI S hX hbl hbA hG hP hS hl hj hLs hcs2 next
      by_cases z21 : z = (21 : Int32)
      · refine lv_tableIn (off := 699) (tgt := 731) hx hb dL_law_32 (by rw [z21] <;> decide) (by rw [z21] <;> decide) (by rw [z21] <;> rfl) (by decide) ?_
        exact law_21 q21 hI S hX hbl hbA hG hP hS hl hj hLs hcs2 next
      by_cases z22 : z = (22 : Int32)
      · refine lv_tableIn (off := 732) (tgt := 764) hx hb dL_law_32 (by rw [z22] <;> decide) (by rw [z22] <;> decide) (by rw [z22] <;> rfl) (by decide) ?_
        exact law_22 q22 hI S hX hbl hbA hG hP hS hl hj hLs hcs2 next
      by_cases z23 : z = (23 : Int32)
      · refine lv_tableIn (off := 755) (tgt := 787) hx hb dL_law_32 (by rw [z23] <;> decide) (by rw [z23] <;> decide) (by rw [z23] <;> rfl) (by decide) ?_
        exact law_23 q23 hI S hX hbl hbA hG hP hS hl hj hLs hcs2 next
      by_cases z24 : z = (24 : Int32)
      · refine lv_tableIn (off := 768) (tgt := 800) hx hb dL_law_32 (by rw [z24] <;> decide) (by rw [z24] <;> decide) (by rw [z24] <;> rfl) (by decide) ?_
        exact law_24 q24 hI S hX hbl hbA hG hP hS hl hj hLs hcs2 next
      refine lv_tableOut (tgt := 823) hx hb dL_law_32 (by have y0 := lv_neT (a := 0) z0 rfl; have y1 := lv_neT (a := 1) z1 rfl; have y2 := lv_neT (a := 2) z2 rfl; have y3 := lv_neT (a := 3) z3 rfl; have y4 := lv_neT (a := 4) z4 rfl; have y5 := lv_neT (a := 5) z5 rfl; have y6 := lv_neT (a := 6) z6 rfl; have y7 := lv_neT (a := 7) z7 rfl; have y8 := lv_neT (a := 8) z8 rfl; have y9 := lv_neT (a := 9) z9 rfl; have y10 := lv_neT (a := 10) z10 rfl; have y11 := lv_neT (a := 11) z11 rfl; have y12 := lv_neT (a := 12) z12 rfl; have y13 := lv_neT (a := 13) z13 rfl; have y14 := lv_neT (a := 14) z14 rfl; have y15 := lv_neT (a := 15) z15 rfl; have y16 := lv_neT (a := 16) z16 rfl; have y17 := lv_neT (a := 17) z17 rfl; have y18 := lv_neT (a := 18) z18 rfl; have y19 := lv_neT (a := 19) z19 rfl; have y20 := lv_neT (a := 20) z20 rfl; have y21 := lv_neT (a := 21) z21 rfl; have y22 := lv_neT (a := 22) z22 rfl; have y23 := lv_neT (a := 23) z23 rfl; have y24 := lv_neT (a := 24) z24 rfl; omega) (by decide) ?_
      exact next μ H locs hI hP hS
