def cls (kd : Nat) (C : String) (T : u_T) (N : Nat) (ty : Nat → FieldType) : Prop := kd < 10 ∧ vwCl[kd]? = some (C, T, N) ∧ (∀ w ∈ u_ws C T N, w ∈ TB) ∧ (∀ k, k < N → parseFieldDescriptor (T k).2.2.1 = some (ty k)) ∧ (∀ a, a < N → ∀ b, b < N → a ≠ b → (T a).2.1 ≠ (T b).2.1)
def fldI (kd j N : Nat) (T : u_T) (ty : Nat → FieldType) : Prop := j < N ∧ (T j).2.2.2 = false ∧ ty j = .int ∧ (∀ ad f o v, fv ad (upd f j v) kd o = (fv ad f kd o).set j (.int v)) ∧ (∀ ad f o, (fv ad f kd o)[j]? = some (.int (f j)))
def fldR (kd j d N : Nat) : Prop := j < N ∧ (∀ ad f o, (fv ad f kd o)[j]? = some (.ref (ad (o + d))))
def mth (y : MethodName) (cy : ByteArray) (my : Nat) (ry : Option FieldType) (C : String) (np : Nat) : Prop := Cond.instanceMethod y ∈ TB ∧ Cond.selects C y y ∈ TB ∧ Cond.initialized C ∈ TB ∧ Cond.code y cy my ry ∈ TB ∧ (y.cls = C ∧ y.cls ≠ "java/lang/invoke/MethodHandle" ∧ y.cls ≠ "java/lang/invoke/VarHandle" ∧ (parseMethodDescriptor y.desc).map (fun d => d.parameters.length) = some np)
def sth (y : MethodName) (cy : ByteArray) (my : Nat) (ry : Option FieldType) (C : String) (np : Nat) : Prop := Cond.static y ∈ TB ∧ Cond.initialized C ∈ TB ∧ Cond.code y cy my ry ∈ TB ∧ (y.cls = C ∧ y.cls ≠ "java/lang/invoke/MethodHandle" ∧ y.cls ≠ "java/lang/invoke/VarHandle" ∧ (parseMethodDescriptor y.desc).map (fun d => d.parameters.length) = some np)
/-- a method's room, by how high it stands above the leaves -/
def rmL (h : Nat) : Room := { frames := h, cells := 0, slots := 0, locals := 40 * h }
theorem rm_ok {h h' my : Nat} (hh : h' < h) (hm : my ≤ 20) : (rmL h').frames + 1 ≤ (rmL h).frames ∧ 8 + (my + 11) + (rmL h').locals ≤ (rmL h).locals := ⟨hh, by show 8 + (my + 11) + 40 * h' ≤ 40 * h; omega⟩
/-- THE CONTRACTS: where the model answers x, the method answers x.1 and leaves x.2 -/
def QcI (D : va_G) (cI cR : ClassId) (n : Nat) (K L ad : Nat → Nat) (x : Int32 × Mem) : Array Value → State → Outcome → State → Prop := va_Qi (fun r (_ : Unit) => r = x.1) (fun _ t => wo D cI cR n K L ad x.2 t.heap ∧ gok D cI cR n K L ad t) (Ag n ad)
def QcV (D : va_G) (cI cR : ClassId) (n : Nat) (K L ad : Nat → Nat) (x : Mem) : Array Value → State → Outcome → State → Prop := va_Qv (fun (_ : Unit) => True) (fun _ t => wo D cI cR n K L ad x t.heap ∧ gok D cI cR n K L ad t) (Ag n ad)
def PcM (D : va_G) (cI cR : ClassId) (n : Nat) (K L ad : Nat → Nat) (μ : Mem) (av : List Value) : Array Value → State → Prop := va_Pc av (fun U => wo D cI cR n K L ad μ U.heap ∧ gok D cI cR n K L ad U)
def Ci (l : Launch) (y : MethodName) (cy : ByteArray) (my : Nat) (ry : Option FieldType) (rm : Room) (D : va_G) (cI cR : ClassId) (n : Nat) (K L ad : Nat → Nat) (av : List Value) (f : Mem → Option (Int32 × Mem)) : Prop :=
  ∀ (μ : Mem) (x : Int32 × Mem), f μ = some x → Met l y (Cond.code y cy my ry :: TB) rm (PcM D cI cR n K L ad μ av) (QcI D cI cR n K L ad x) 0 0 (Ag n ad)
def Cv (l : Launch) (y : MethodName) (cy : ByteArray) (my : Nat) (ry : Option FieldType) (rm : Room) (D : va_G) (cI cR : ClassId) (n : Nat) (K L ad : Nat → Nat) (av : List Value) (f : Mem → Option Mem) : Prop :=
  ∀ (μ x : Mem), f μ = some x → Met l y (Cond.code y cy my ry :: TB) rm (PcM D cI cR n K L ad μ av) (QcV D cI cR n K L ad x) 0 0 (Ag n ad)
def isb (v : Int32) : Bool := decide (v = 0) || decide (v = 1)
def ald {X : Type} (L : Nat → Nat) (μ : Mem) (c : Nat) (i : Int32) (A : Int32 → Option X) : Option X := if inb i (L c) = true then A (μ c i.toNatClampNeg) else none
def ast {X : Type} (L : Nat → Nat) (μ : Mem) (c : Nat) (i v : Int32) (A : Mem → Option X) : Option X := if inb i (L c) = true then A (up μ c i.toNatClampNeg v) else none
def aaq {X : Type} (L : Nat → Nat) (c : Nat) (i : Int32) (A : Option X) : Option X := if inb i (L c) = true then A else none
def pu {X : Type} (μ : Mem) (c j : Nat) (v : Int32) (A : Mem → Option X) : Option X := A (up μ c j v)
def lt' {X : Type} (v : Int32) (A : Int32 → Option X) : Option X := A v
def bd {X : Type} (z : Option (Int32 × Mem)) (A : Int32 → Mem → Option X) : Option X := match z with
  | none => none
  | some q => A q.1 q.2
def bv {X : Type} (z : Option Mem) (A : Mem → Option X) : Option X := match z with
  | none => none
  | some q => A q
def nz {X : Type} (b : Int32) (A : Option X) : Option X := if b = 0 then none else A
def zr (v : Int32) (μ : Mem) : Option (Int32 × Mem) := if isb v = true then some (v, μ) else none
/-- how many rounds a loop's model may take -/
def FU : Nat := 100000
theorem isb_n {v : Int32} (h : isb v = true) : narrow .boolean (.int v) = .int v := by
  simp only [isb, Bool.or_eq_true, decide_eq_true_eq] at h
  rcases h with rfl | rfl <;> rfl
section BASE2
variable {p : Program} {l : Launch} {e : Env} {R : Room} {s : State} {m : MethodId} {args : Array Value} {below : List Frame} {meth : Method} {c : Code} {H : Heap} {locs : List Loc} {cells slots : Nat} {Q : State → Prop}
variable {cc : ByteArray} {pc : Nat} {ls : Array Slot} {rest st : List Value}
variable {D : va_G} {cI cR : ClassId} {n : Nat} {K L ad : Nat → Nat} {μ : Mem} {own C : String} {T : u_T} {ty : Nat → FieldType} {N kd idx nL o j d : Nat}
variable {X : Type} {x : X}
theorem r_geti (S : CallFix p m c cc nL s args TB own) (hG : gok D cI cR n K L ad s) (hP : wo D cI cR n K L ad μ H) (ho : isk n K o kd) (hc : cls kd C T N ty) (hf : fldI kd j N T ty) (hlk : Cond.fieldLink own idx (T j).1 (T j).2.1 (T j).2.2.1 ∈ TB) (hdg : decode cc pc = .ok (.getfield idx, 3))
    (kk : W p l e R s m args below meth c H locs cells slots Q (F0 m (pc + 3) ls (.int (μ o j) :: rest))) : W p l e R s m args below meth c H locs cells slots Q (F0 m pc ls (.ref (ad o) :: rest)) :=
  va_get S.1 S.2.1 S.2.2.2.2 hc.2.2.1 S.2.2.2.1 hG.1 hP o (cw_atO ho hc.1) hc.2.1 j hf.1 (S.2.2.2.2 _ hlk) (fun _ h => h) (hf.2.2.2.2 _ _ _) hdg kk
theorem r_getr (S : CallFix p m c cc nL s args TB own) (hG : gok D cI cR n K L ad s) (hP : wo D cI cR n K L ad μ H) (ho : isk n K o kd) (hc : cls kd C T N ty) (hf : fldR kd j d N) (hlk : Cond.fieldLink own idx (T j).1 (T j).2.1 (T j).2.2.1 ∈ TB) (hdg : decode cc pc = .ok (.getfield idx, 3))
    (kk : W p l e R s m args below meth c H locs cells slots Q (F0 m (pc + 3) ls (.ref (ad (o + d)) :: rest))) : W p l e R s m args below meth c H locs cells slots Q (F0 m pc ls (.ref (ad o) :: rest)) :=
  va_get S.1 S.2.1 S.2.2.2.2 hc.2.2.1 S.2.2.2.1 hG.1 hP o (cw_atO ho hc.1) hc.2.1 j hf.1 (S.2.2.2.2 _ hlk) (fun _ h => h) (hf.2 _ _ _) hdg kk
theorem r_puti (S : CallFix p m c cc nL s args TB own) (hG : gok D cI cR n K L ad s) (hP : wo D cI cR n K L ad μ H) (hS : va_S (Ag n ad) s.heap H locs) (ho : isk n K o kd) (hc : cls kd C T N ty) (hf : fldI kd j N T ty) (hlk : Cond.fieldLink own idx (T j).1 (T j).2.1 (T j).2.2.1 ∈ TB) {v : Int32} {A : Mem → Option X} (hm : pu μ o j v A = some x) (hdg : decode cc pc = .ok (.putfield idx, 3))
    (kk : ∀ (μ1 : Mem) (H1 : Heap) (locs1 : List Loc), A μ1 = some x → wo D cI cR n K L ad μ1 H1 → va_S (Ag n ad) s.heap H1 locs1 → W p l e R s m args below meth c H1 locs1 cells slots Q (F0 m (pc + 3) ls rest)) : W p l e R s m args below meth c H locs cells slots Q (F0 m pc ls (.int v :: .ref (ad o) :: rest)) := by
  have hl : j < (fv ad (μ o) kd o).length := (List.getElem?_eq_some_iff.mp (hf.2.2.2.2 ad (μ o) o)).1
  refine va_put (ty := .int) (v := .int v) S.1 S.2.1 S.2.2.2.2 hc.2.2.1 ty hc.2.2.2.1 hc.2.2.2.2 S.2.2.2.1 hG.1 hP (cw_D hG) hS o (cw_atO ho hc.1) hc.2.1 j hf.1 (S.2.2.2.2 _ hlk) (fun _ h => h) hf.2.1 (by rw [hc.2.2.2.1 j hf.1, hf.2.2.1]) rfl rfl hl hdg (fun H1 locs1 hP1 _ hS1 => ?_)
  rw [cw_upO ho hc.1 j v (hf.2.2.2.1 _ _ _ _)] at hP1
  exact kk _ H1 locs1 hm hP1 hS1
theorem r_iald (S : CallFix p m c cc nL s args TB own) (hG : gok D cI cR n K L ad s) (hP : wo D cI cR n K L ad μ H) (ho : isk n K o 10) {i : Int32} {A : Int32 → Option X} (hm : ald L μ o i A = some x) (hdg : decode cc pc = .ok (.iaload, 1))
    (kk : ∀ v : Int32, A v = some x → W p l e R s m args below meth c H locs cells slots Q (F0 m (pc + 1) ls (.int v :: rest))) : W p l e R s m args below meth c H locs cells slots Q (F0 m pc ls (.int i :: .ref (ad o) :: rest)) := by
  simp only [ald, ast, aaq] at hm
  by_cases hi : inb i (L o) = true
  · rw [if_pos hi] at hm
    exact va_iald S.1 S.2.1 hG.1 hP o 0 (cw_atI ho) rfl (inb_in hi) hdg (kk _ hm)
  · rw [if_neg hi] at hm
    cases hm
theorem r_iast (S : CallFix p m c cc nL s args TB own) (hG : gok D cI cR n K L ad s) (hP : wo D cI cR n K L ad μ H) (hS : va_S (Ag n ad) s.heap H locs) (ho : isk n K o 10) {i v : Int32} {A : Mem → Option X} (hm : ast L μ o i v A = some x) (hdg : decode cc pc = .ok (.iastore, 1))
    (kk : ∀ (μ1 : Mem) (H1 : Heap) (locs1 : List Loc), A μ1 = some x → wo D cI cR n K L ad μ1 H1 → va_S (Ag n ad) s.heap H1 locs1 → W p l e R s m args below meth c H1 locs1 cells slots Q (F0 m (pc + 1) ls rest)) : W p l e R s m args below meth c H locs cells slots Q (F0 m pc ls (.int v :: .int i :: .ref (ad o) :: rest)) := by
  simp only [ald, ast, aaq] at hm
  by_cases hi : inb i (L o) = true
  · rw [if_pos hi] at hm
    refine va_iast S.1 S.2.1 hG.1 hP (cw_D hG) hS o 0 (cw_atI ho) rfl (inb_in hi) hdg (fun H1 locs1 hP1 _ hS1 => ?_)
    rw [cw_upI ho] at hP1
    exact kk _ H1 locs1 hm hP1 hS1
  · rw [if_neg hi] at hm
    cases hm
theorem r_alen (S : CallFix p m c cc nL s args TB own) (hG : gok D cI cR n K L ad s) (hP : wo D cI cR n K L ad μ H) (ho : isk n K o 10) (hdg : decode cc pc = .ok (.arraylength, 1))
    (kk : W p l e R s m args below meth c H locs cells slots Q (F0 m (pc + 1) ls (.int (nI (L o)) :: rest))) : W p l e R s m args below meth c H locs cells slots Q (F0 m pc ls (.ref (ad o) :: rest)) :=
  va_alen S.1 S.2.1 hG.1 hP o 0 (cw_atI ho) rfl rfl hdg kk
theorem r_alenR (S : CallFix p m c cc nL s args TB own) (hG : gok D cI cR n K L ad s) (hP : wo D cI cR n K L ad μ H) (ho : isk n K o 11) (hdg : decode cc pc = .ok (.arraylength, 1))
    (kk : W p l e R s m args below meth c H locs cells slots Q (F0 m (pc + 1) ls (.int (nI (L o)) :: rest))) : W p l e R s m args below meth c H locs cells slots Q (F0 m pc ls (.ref (ad o) :: rest)) :=
  va_alen S.1 S.2.1 hG.1 hP o 1 (cw_atR ho) rfl rfl hdg kk
theorem r_aald (S : CallFix p m c cc nL s args TB own) (hG : gok D cI cR n K L ad s) (hP : wo D cI cR n K L ad μ H) (ho : isk n K o 11) {i : Int32} {A : Option X} (hm : aaq L o i A = some x) (hdg : decode cc pc = .ok (.aaload, 1))
    (kk : isk n K (o + 1 + 2 * i.toNatClampNeg) 3 → A = some x → W p l e R s m args below meth c H locs cells slots Q (F0 m (pc + 1) ls (.ref (ad (o + 1 + 2 * i.toNatClampNeg)) :: rest))) : W p l e R s m args below meth c H locs cells slots Q (F0 m pc ls (.int i :: .ref (ad o) :: rest)) := by
  simp only [ald, ast, aaq] at hm
  by_cases hi : inb i (L o) = true
  · rw [if_pos hi] at hm
    have hlt : i.toNatClampNeg < L o := Nat.not_le.mp fun q => inb_in hi (Or.inr q)
    exact va_aldq S.1 S.2.1 hG.1 hP o 1 (cw_atR ho) rfl (inb_in hi) hdg (kk (hG.2.2.2.2.2.2.2.2.2.2.2.2 o ho _ hlt) hm)
  · rw [if_neg hi] at hm
    cases hm
theorem r_idiv (S : CallFix p m c cc nL s args TB own) {a b : Int32} {A : Option X} (hm : nz b A = some x) (hdg : decode cc pc = .ok (.idiv, 1))
    (kk : A = some x → W p l e R s m args below meth c H locs cells slots Q (F0 m (pc + 1) ls (.int (a / b) :: rest))) : W p l e R s m args below meth c H locs cells slots Q (F0 m pc ls (.int b :: .int a :: rest)) := by
  simp only [nz] at hm
  by_cases hi : b = 0
  · rw [if_pos hi] at hm
    cases hm
  · rw [if_neg hi] at hm
    exact lv_idiv S.1 S.2.1 hdg hi (kk hm)
theorem r_irem (S : CallFix p m c cc nL s args TB own) {a b : Int32} {A : Option X} (hm : nz b A = some x) (hdg : decode cc pc = .ok (.irem, 1))
    (kk : A = some x → W p l e R s m args below meth c H locs cells slots Q (F0 m (pc + 1) ls (.int (a - a / b * b) :: rest))) : W p l e R s m args below meth c H locs cells slots Q (F0 m pc ls (.int b :: .int a :: rest)) := by
  simp only [nz] at hm
  by_cases hi : b = 0
  · rw [if_pos hi] at hm
    cases hm
  · rw [if_neg hi] at hm
    exact lv_irem S.1 S.2.1 hdg hi (kk hm)
theorem PcM.blind {av : List Value} : FrameBlind (PcM D cI cR n K L ad μ av) := fun a U g mk q => ⟨q.1, q.2.1, va_K.moved (u := U) (U := U.calling g mk a) (Vm.Alike.refl U.vm) q.2.2.1, q.2.2.2⟩
theorem good_V {X1 y : MethodName} {cy : ByteArray} {my : Nat} {ry : Option FieldType} {np : Nat} (hM : mth y cy my ry C np) (hlk : Cond.methodLink own idx y ∈ TB) : GoodIn TB (wsV own idx C y (Cond.code y cy my ry :: TB)) := by
  apply good_tb0
  intro w hw
  unfold wsV at hw
  rcases List.mem_append.mp hw with h | h
  · simp only [List.mem_cons, List.not_mem_nil, or_false] at h
    rcases h with rfl | rfl | rfl | rfl
    · exact hlk
    · exact hM.1
    · exact hM.2.1
    · exact hM.2.2.1
  · rcases List.mem_cons.mp h with rfl | h
    · exact hM.2.2.2.1
    · exact h
theorem good_S0 {y : MethodName} {cy : ByteArray} {my : Nat} {ry : Option FieldType} {np : Nat} (hM : sth y cy my ry C np) : GoodIn TB (Cond.code y cy my ry :: TB) := by
  apply good_tb0
  intro w hw
  rcases List.mem_cons.mp hw with rfl | h
  · exact hM.2.2.1
  · exact h

theorem r_vcalli {y : MethodName} {cy : ByteArray} {my : Nat} {ry : Option FieldType} {rm : Room} {As : List Value} {f : Mem → Option (Int32 × Mem)} {A : Int32 → Mem → Option X} (S : CallFix p m c cc nL s args TB own) (hG : gok D cI cR n K L ad s) (hP : wo D cI cR n K L ad μ H) (hS : va_S (Ag n ad) s.heap H locs) (hM : mth y cy my ry C As.length) (hlk : Cond.methodLink own idx y ∈ TB) (hc : cls kd C T N ty) (ho : isk n K o kd)
    (hC : Ci l y cy my ry rm D cI cR n K L ad (.ref (ad o) :: As) f) (hrm : rm.cells = 0 ∧ rm.slots = 0) (hR : rm.frames + 1 ≤ R.frames ∧ 8 + (my + 11) + rm.locals ≤ R.locals) (hm : bd (f μ) A = some x) (hls : ls.size = nL) (hst : As.reverse ++ .ref (ad o) :: rest = st) (hro : (rest.map fun v => v.category).sum ≤ 8) (hcs : cells ≤ R.cells ∧ slots ≤ R.slots) (hdg : decode cc pc = .ok (.invokevirtual idx, 3))
    (kk : ∀ (r : Int32) (μ1 : Mem) (H1 : Heap) (locs1 : List Loc), A r μ1 = some x → wo D cI cR n K L ad μ1 H1 → va_S (Ag n ad) s.heap H1 locs1 → W p l e R s m args below meth c H1 locs1 cells slots Q (F0 m (pc + 3) ls (.int r :: rest))) : W p l e R s m args below meth c H locs cells slots Q (F0 m pc ls st) := by
  subst hst
  cases hq : f μ with
  | none => rw [hq] at hm; cases hm
  | some q =>
    rw [hq] at hm
    refine va_calli (va_runV (As := As) (rest := rest) S (hC μ q hq) (cwV As.length S.2.2.2.2 (good_V (X1 := y) hM hlk) rfl hrm.1 hrm.2 hM.2.2.2.2 hR) ⟨PcM.blind, va_recv hG.1 hP hc.2.1 (cw_atO ho hc.1), fun U hU hW => ⟨rfl, by rw [hU]; exact hP, hG.moved hW.alike⟩⟩ rfl rfl hls rfl (lv_room hro) hdg hcs) hS (fun q _ h => h) (fun q h => h) (fun r u t H1 locs1 ht hvm hw hB hz1 hk1 hS1 => ?_)
    subst ht
    cases hw
    exact kk q.1 q.2 t.heap locs1 hm hB.1 hS1
theorem r_scalli {y : MethodName} {cy : ByteArray} {my : Nat} {ry : Option FieldType} {rm : Room} {As : List Value} {f : Mem → Option (Int32 × Mem)} {A : Int32 → Mem → Option X} (S : CallFix p m c cc nL s args TB own) (hG : gok D cI cR n K L ad s) (hP : wo D cI cR n K L ad μ H) (hS : va_S (Ag n ad) s.heap H locs) (hM : sth y cy my ry C As.length) (hlk : Cond.methodLink own idx y ∈ TB)
    (hC : Ci l y cy my ry rm D cI cR n K L ad As f) (hrm : rm.cells = 0 ∧ rm.slots = 0) (hR : rm.frames + 1 ≤ R.frames ∧ 8 + (my + 11) + rm.locals ≤ R.locals) (hm : bd (f μ) A = some x) (hls : ls.size = nL) (hst : As.reverse ++ rest = st) (hro : (rest.map fun v => v.category).sum ≤ 8) (hcs : cells ≤ R.cells ∧ slots ≤ R.slots) (hdg : decode cc pc = .ok (.invokestatic idx, 3))
    (kk : ∀ (r : Int32) (μ1 : Mem) (H1 : Heap) (locs1 : List Loc), A r μ1 = some x → wo D cI cR n K L ad μ1 H1 → va_S (Ag n ad) s.heap H1 locs1 → W p l e R s m args below meth c H1 locs1 cells slots Q (F0 m (pc + 3) ls (.int r :: rest))) : W p l e R s m args below meth c H locs cells slots Q (F0 m pc ls st) := by
  subst hst
  cases hq : f μ with
  | none => rw [hq] at hm; cases hm
  | some q =>
    rw [hq] at hm
    refine va_calli (va_runS (As := As) (rest := rest) S (hC μ q hq) ⟨callB_of As.length S.2.2.2.2 (good_S0 hM) rfl hrm.1 hrm.2 (by rw [hM.2.2.2.1]; exact S.2.2.2.2 _ hM.2.1) (S.2.2.2.2 _ hlk) hM.2.2.2.2 hR, S.2.2.2.2 _ hM.1⟩ ⟨PcM.blind, fun U hU hW => ⟨rfl, by rw [hU]; exact hP, hG.moved hW.alike⟩⟩ rfl rfl hls rfl (lv_room hro) hdg hcs) hS (fun q _ h => h) (fun q h => h) (fun r u t H1 locs1 ht hvm hw hB hz1 hk1 hS1 => ?_)
    subst ht
    cases hw
    exact kk q.1 q.2 t.heap locs1 hm hB.1 hS1

theorem r_vcallv {y : MethodName} {cy : ByteArray} {my : Nat} {ry : Option FieldType} {rm : Room} {As : List Value} {f : Mem → Option (Mem)} {A : Mem → Option X} (S : CallFix p m c cc nL s args TB own) (hG : gok D cI cR n K L ad s) (hP : wo D cI cR n K L ad μ H) (hS : va_S (Ag n ad) s.heap H locs) (hM : mth y cy my ry C As.length) (hlk : Cond.methodLink own idx y ∈ TB) (hc : cls kd C T N ty) (ho : isk n K o kd)
    (hC : Cv l y cy my ry rm D cI cR n K L ad (.ref (ad o) :: As) f) (hrm : rm.cells = 0 ∧ rm.slots = 0) (hR : rm.frames + 1 ≤ R.frames ∧ 8 + (my + 11) + rm.locals ≤ R.locals) (hm : bv (f μ) A = some x) (hls : ls.size = nL) (hst : As.reverse ++ .ref (ad o) :: rest = st) (hro : (rest.map fun v => v.category).sum ≤ 8) (hcs : cells ≤ R.cells ∧ slots ≤ R.slots) (hdg : decode cc pc = .ok (.invokevirtual idx, 3))
    (kk : ∀ (μ1 : Mem) (H1 : Heap) (locs1 : List Loc), A μ1 = some x → wo D cI cR n K L ad μ1 H1 → va_S (Ag n ad) s.heap H1 locs1 → W p l e R s m args below meth c H1 locs1 cells slots Q (F0 m (pc + 3) ls (rest))) : W p l e R s m args below meth c H locs cells slots Q (F0 m pc ls st) := by
  subst hst
  cases hq : f μ with
  | none => rw [hq] at hm; cases hm
  | some q =>
    rw [hq] at hm
    refine va_callv (va_runV (As := As) (rest := rest) S (hC μ q hq) (cwV As.length S.2.2.2.2 (good_V (X1 := y) hM hlk) rfl hrm.1 hrm.2 hM.2.2.2.2 hR) ⟨PcM.blind, va_recv hG.1 hP hc.2.1 (cw_atO ho hc.1), fun U hU hW => ⟨rfl, by rw [hU]; exact hP, hG.moved hW.alike⟩⟩ rfl rfl hls rfl (lv_room hro) hdg hcs) hS (fun q _ h => h) (fun q h => h) (fun u t H1 locs1 ht hvm hw hB hz1 hk1 hS1 => ?_)
    subst ht
    exact kk q t.heap locs1 hm hB.1 hS1
theorem r_scallv {y : MethodName} {cy : ByteArray} {my : Nat} {ry : Option FieldType} {rm : Room} {As : List Value} {f : Mem → Option (Mem)} {A : Mem → Option X} (S : CallFix p m c cc nL s args TB own) (hG : gok D cI cR n K L ad s) (hP : wo D cI cR n K L ad μ H) (hS : va_S (Ag n ad) s.heap H locs) (hM : sth y cy my ry C As.length) (hlk : Cond.methodLink own idx y ∈ TB)
    (hC : Cv l y cy my ry rm D cI cR n K L ad As f) (hrm : rm.cells = 0 ∧ rm.slots = 0) (hR : rm.frames + 1 ≤ R.frames ∧ 8 + (my + 11) + rm.locals ≤ R.locals) (hm : bv (f μ) A = some x) (hls : ls.size = nL) (hst : As.reverse ++ rest = st) (hro : (rest.map fun v => v.category).sum ≤ 8) (hcs : cells ≤ R.cells ∧ slots ≤ R.slots) (hdg : decode cc pc = .ok (.invokestatic idx, 3))
    (kk : ∀ (μ1 : Mem) (H1 : Heap) (locs1 : List Loc), A μ1 = some x → wo D cI cR n K L ad μ1 H1 → va_S (Ag n ad) s.heap H1 locs1 → W p l e R s m args below meth c H1 locs1 cells slots Q (F0 m (pc + 3) ls (rest))) : W p l e R s m args below meth c H locs cells slots Q (F0 m pc ls st) := by
  subst hst
  cases hq : f μ with
  | none => rw [hq] at hm; cases hm
  | some q =>
    rw [hq] at hm
    refine va_callv (va_runS (As := As) (rest := rest) S (hC μ q hq) ⟨callB_of As.length S.2.2.2.2 (good_S0 hM) rfl hrm.1 hrm.2 (by rw [hM.2.2.2.1]; exact S.2.2.2.2 _ hM.2.1) (S.2.2.2.2 _ hlk) hM.2.2.2.2 hR, S.2.2.2.2 _ hM.1⟩ ⟨PcM.blind, fun U hU hW => ⟨rfl, by rw [hU]; exact hP, hG.moved hW.alike⟩⟩ rfl rfl hls rfl (lv_room hro) hdg hcs) hS (fun q _ h => h) (fun q h => h) (fun u t H1 locs1 ht hvm hw hB hz1 hk1 hS1 => ?_)
    subst ht
    exact kk q t.heap locs1 hm hB.1 hS1

def QI (D : va_G) (cI cR : ClassId) (n : Nat) (K L ad : Nat → Nat) (below : List Frame) (args : Array Value) (s : State) (x : Int32 × Mem) : State → Prop := MQ below (QcI D cI cR n K L ad x) args s 0 0 (Ag n ad)
def QV (D : va_G) (cI cR : ClassId) (n : Nat) (K L ad : Nat → Nat) (below : List Frame) (args : Array Value) (s : State) (x : Mem) : State → Prop := MQ below (QcV D cI cR n K L ad x) args s 0 0 (Ag n ad)
theorem r_iret {x : Int32 × Mem} {v : Int32} (S : CallFix p m c cc nL s args TB own) (hr : meth.sig.returnType = some .int ∧ meth.locks = false) (hG : gok D cI cR n K L ad s) (hP : wo D cI cR n K L ad μ H) (hS : va_S (Ag n ad) s.heap H locs) (hm : some (v, μ) = some x) (hdg : decode cc pc = .ok (.ireturn, 1)) : W p l e R s m args below meth c H locs 0 0 (QI D cI cR n K L ad below args s x) (F0 m pc ls [.int v]) := by
  cases hm
  exact W.iret (v := v) (hlocks := hr.2) S.1 S.2.1 hr.1 (fun t ht hW => ⟨⟨v, (), rfl, rfl, by rw [ht]; exact hP, hG.moved hW.alike⟩, hS.F ht⟩) hS.2.2 hdg
theorem r_zretC {x : Int32 × Mem} {v : Int32} (S : CallFix p m c cc nL s args TB own) (hr : meth.sig.returnType = some .boolean ∧ meth.locks = false) (hG : gok D cI cR n K L ad s) (hP : wo D cI cR n K L ad μ H) (hS : va_S (Ag n ad) s.heap H locs) (hn : narrow .boolean (.int v) = .int v) (hm : some (v, μ) = some x) (hdg : decode cc pc = .ok (.ireturn, 1)) : W p l e R s m args below meth c H locs 0 0 (QI D cI cR n K L ad below args s x) (F0 m pc ls [.int v]) := by
  cases hm
  exact W.zret (v := v) (hlocks := hr.2) S.1 S.2.1 hr.1 hn (fun t ht hW => ⟨⟨v, (), rfl, rfl, by rw [ht]; exact hP, hG.moved hW.alike⟩, hS.F ht⟩) hS.2.2 hdg
theorem r_zret {x : Int32 × Mem} {v : Int32} (S : CallFix p m c cc nL s args TB own) (hr : meth.sig.returnType = some .boolean ∧ meth.locks = false) (hG : gok D cI cR n K L ad s) (hP : wo D cI cR n K L ad μ H) (hS : va_S (Ag n ad) s.heap H locs) (hm : zr v μ = some x) (hdg : decode cc pc = .ok (.ireturn, 1)) : W p l e R s m args below meth c H locs 0 0 (QI D cI cR n K L ad below args s x) (F0 m pc ls [.int v]) := by
  simp only [zr] at hm
  by_cases hi : isb v = true
  · rw [if_pos hi] at hm
    exact r_zretC S hr hG hP hS (isb_n hi) hm hdg
  · rw [if_neg hi] at hm
    cases hm
theorem r_vret {x : Mem} (S : CallFix p m c cc nL s args TB own) (hr : meth.sig.returnType = none ∧ meth.locks = false) (hG : gok D cI cR n K L ad s) (hP : wo D cI cR n K L ad μ H) (hS : va_S (Ag n ad) s.heap H locs) (hm : some μ = some x) (hdg : decode cc pc = .ok (.return_, 1)) : W p l e R s m args below meth c H locs 0 0 (QV D cI cR n K L ad below args s x) (F0 m pc ls []) := by
  cases hm
  exact W.vret (hlocks := hr.2) S.1 S.2.1 hr.1 (fun t ht hW => ⟨⟨(), rfl, trivial, by rw [ht]; exact hP, hG.moved hW.alike⟩, hS.F ht⟩) hS.2.2 hdg

theorem b_icmp_eq (S : CallFix p m c cc nL s args TB own) {a b : Int32} {off : Int} {tgt : Nat} {A B : Option X} (hdg : decode cc pc = .ok (.if_icmp .eq off, 3)) (ht : (pc : Int) + off = (tgt : Int)) (hm : (if a = b then A else B) = some x) (kt : A = some x → W p l e R s m args below meth c H locs cells slots Q (F0 m tgt ls rest)) (kf : B = some x → W p l e R s m args below meth c H locs cells slots Q (F0 m (pc + 3) ls rest)) : W p l e R s m args below meth c H locs cells slots Q (F0 m pc ls (.int b :: .int a :: rest)) :=
  lv_icmp_eq S.1 S.2.1 hdg ht (fun c => kt (by rw [if_pos c] at hm; exact hm)) (fun c => kf (by rw [if_neg c] at hm; exact hm))

theorem b_if_eq (S : CallFix p m c cc nL s args TB own) {a : Int32} {off : Int} {tgt : Nat} {A B : Option X} (hdg : decode cc pc = .ok (.ifCond .eq off, 3)) (ht : (pc : Int) + off = (tgt : Int)) (hm : (if a = 0 then A else B) = some x) (kt : A = some x → W p l e R s m args below meth c H locs cells slots Q (F0 m tgt ls rest)) (kf : B = some x → W p l e R s m args below meth c H locs cells slots Q (F0 m (pc + 3) ls rest)) : W p l e R s m args below meth c H locs cells slots Q (F0 m pc ls (.int a :: rest)) :=
  lv_if_eq S.1 S.2.1 hdg ht (fun c => kt (by rw [if_pos c] at hm; exact hm)) (fun c => kf (by rw [if_neg c] at hm; exact hm))

theorem b_icmp_ne (S : CallFix p m c cc nL s args TB own) {a b : Int32} {off : Int} {tgt : Nat} {A B : Option X} (hdg : decode cc pc = .ok (.if_icmp .ne off, 3)) (ht : (pc : Int) + off = (tgt : Int)) (hm : (if a = b then A else B) = some x) (kt : B = some x → W p l e R s m args below meth c H locs cells slots Q (F0 m tgt ls rest)) (kf : A = some x → W p l e R s m args below meth c H locs cells slots Q (F0 m (pc + 3) ls rest)) : W p l e R s m args below meth c H locs cells slots Q (F0 m pc ls (.int b :: .int a :: rest)) :=
  lv_icmp_ne S.1 S.2.1 hdg ht (fun c => kt (by rw [if_neg c] at hm; exact hm)) (fun c => kf (by rw [if_pos c] at hm; exact hm))

theorem b_if_ne (S : CallFix p m c cc nL s args TB own) {a : Int32} {off : Int} {tgt : Nat} {A B : Option X} (hdg : decode cc pc = .ok (.ifCond .ne off, 3)) (ht : (pc : Int) + off = (tgt : Int)) (hm : (if a = 0 then A else B) = some x) (kt : B = some x → W p l e R s m args below meth c H locs cells slots Q (F0 m tgt ls rest)) (kf : A = some x → W p l e R s m args below meth c H locs cells slots Q (F0 m (pc + 3) ls rest)) : W p l e R s m args below meth c H locs cells slots Q (F0 m pc ls (.int a :: rest)) :=
  lv_if_ne S.1 S.2.1 hdg ht (fun c => kt (by rw [if_neg c] at hm; exact hm)) (fun c => kf (by rw [if_pos c] at hm; exact hm))

theorem b_icmp_lt (S : CallFix p m c cc nL s args TB own) {a b : Int32} {off : Int} {tgt : Nat} {A B : Option X} (hdg : decode cc pc = .ok (.if_icmp .lt off, 3)) (ht : (pc : Int) + off = (tgt : Int)) (hm : (if a < b then A else B) = some x) (kt : A = some x → W p l e R s m args below meth c H locs cells slots Q (F0 m tgt ls rest)) (kf : B = some x → W p l e R s m args below meth c H locs cells slots Q (F0 m (pc + 3) ls rest)) : W p l e R s m args below meth c H locs cells slots Q (F0 m pc ls (.int b :: .int a :: rest)) :=
  lv_icmp_lt S.1 S.2.1 hdg ht (fun c => kt (by rw [if_pos c] at hm; exact hm)) (fun c => kf (by rw [if_neg c] at hm; exact hm))

theorem b_if_lt (S : CallFix p m c cc nL s args TB own) {a : Int32} {off : Int} {tgt : Nat} {A B : Option X} (hdg : decode cc pc = .ok (.ifCond .lt off, 3)) (ht : (pc : Int) + off = (tgt : Int)) (hm : (if a < 0 then A else B) = some x) (kt : A = some x → W p l e R s m args below meth c H locs cells slots Q (F0 m tgt ls rest)) (kf : B = some x → W p l e R s m args below meth c H locs cells slots Q (F0 m (pc + 3) ls rest)) : W p l e R s m args below meth c H locs cells slots Q (F0 m pc ls (.int a :: rest)) :=
  lv_if_lt S.1 S.2.1 hdg ht (fun c => kt (by rw [if_pos c] at hm; exact hm)) (fun c => kf (by rw [if_neg c] at hm; exact hm))

theorem b_icmp_ge (S : CallFix p m c cc nL s args TB own) {a b : Int32} {off : Int} {tgt : Nat} {A B : Option X} (hdg : decode cc pc = .ok (.if_icmp .ge off, 3)) (ht : (pc : Int) + off = (tgt : Int)) (hm : (if b ≤ a then A else B) = some x) (kt : A = some x → W p l e R s m args below meth c H locs cells slots Q (F0 m tgt ls rest)) (kf : B = some x → W p l e R s m args below meth c H locs cells slots Q (F0 m (pc + 3) ls rest)) : W p l e R s m args below meth c H locs cells slots Q (F0 m pc ls (.int b :: .int a :: rest)) :=
  lv_icmp_ge S.1 S.2.1 hdg ht (fun c => kt (by rw [if_pos c] at hm; exact hm)) (fun c => kf (by rw [if_neg c] at hm; exact hm))

theorem b_if_ge (S : CallFix p m c cc nL s args TB own) {a : Int32} {off : Int} {tgt : Nat} {A B : Option X} (hdg : decode cc pc = .ok (.ifCond .ge off, 3)) (ht : (pc : Int) + off = (tgt : Int)) (hm : (if 0 ≤ a then A else B) = some x) (kt : A = some x → W p l e R s m args below meth c H locs cells slots Q (F0 m tgt ls rest)) (kf : B = some x → W p l e R s m args below meth c H locs cells slots Q (F0 m (pc + 3) ls rest)) : W p l e R s m args below meth c H locs cells slots Q (F0 m pc ls (.int a :: rest)) :=
  lv_if_ge S.1 S.2.1 hdg ht (fun c => kt (by rw [if_pos c] at hm; exact hm)) (fun c => kf (by rw [if_neg c] at hm; exact hm))

theorem b_icmp_gt (S : CallFix p m c cc nL s args TB own) {a b : Int32} {off : Int} {tgt : Nat} {A B : Option X} (hdg : decode cc pc = .ok (.if_icmp .gt off, 3)) (ht : (pc : Int) + off = (tgt : Int)) (hm : (if b < a then A else B) = some x) (kt : A = some x → W p l e R s m args below meth c H locs cells slots Q (F0 m tgt ls rest)) (kf : B = some x → W p l e R s m args below meth c H locs cells slots Q (F0 m (pc + 3) ls rest)) : W p l e R s m args below meth c H locs cells slots Q (F0 m pc ls (.int b :: .int a :: rest)) :=
  lv_icmp_gt S.1 S.2.1 hdg ht (fun c => kt (by rw [if_pos c] at hm; exact hm)) (fun c => kf (by rw [if_neg c] at hm; exact hm))

theorem b_if_gt (S : CallFix p m c cc nL s args TB own) {a : Int32} {off : Int} {tgt : Nat} {A B : Option X} (hdg : decode cc pc = .ok (.ifCond .gt off, 3)) (ht : (pc : Int) + off = (tgt : Int)) (hm : (if 0 < a then A else B) = some x) (kt : A = some x → W p l e R s m args below meth c H locs cells slots Q (F0 m tgt ls rest)) (kf : B = some x → W p l e R s m args below meth c H locs cells slots Q (F0 m (pc + 3) ls rest)) : W p l e R s m args below meth c H locs cells slots Q (F0 m pc ls (.int a :: rest)) :=
  lv_if_gt S.1 S.2.1 hdg ht (fun c => kt (by rw [if_pos c] at hm; exact hm)) (fun c => kf (by rw [if_neg c] at hm; exact hm))

theorem b_icmp_le (S : CallFix p m c cc nL s args TB own) {a b : Int32} {off : Int} {tgt : Nat} {A B : Option X} (hdg : decode cc pc = .ok (.if_icmp .le off, 3)) (ht : (pc : Int) + off = (tgt : Int)) (hm : (if a ≤ b then A else B) = some x) (kt : A = some x → W p l e R s m args below meth c H locs cells slots Q (F0 m tgt ls rest)) (kf : B = some x → W p l e R s m args below meth c H locs cells slots Q (F0 m (pc + 3) ls rest)) : W p l e R s m args below meth c H locs cells slots Q (F0 m pc ls (.int b :: .int a :: rest)) :=
  lv_icmp_le S.1 S.2.1 hdg ht (fun c => kt (by rw [if_pos c] at hm; exact hm)) (fun c => kf (by rw [if_neg c] at hm; exact hm))

theorem b_if_le (S : CallFix p m c cc nL s args TB own) {a : Int32} {off : Int} {tgt : Nat} {A B : Option X} (hdg : decode cc pc = .ok (.ifCond .le off, 3)) (ht : (pc : Int) + off = (tgt : Int)) (hm : (if a ≤ 0 then A else B) = some x) (kt : A = some x → W p l e R s m args below meth c H locs cells slots Q (F0 m tgt ls rest)) (kf : B = some x → W p l e R s m args below meth c H locs cells slots Q (F0 m (pc + 3) ls rest)) : W p l e R s m args below meth c H locs cells slots Q (F0 m pc ls (.int a :: rest)) :=
  lv_if_le S.1 S.2.1 hdg ht (fun c => kt (by rw [if_pos c] at hm; exact hm)) (fun c => kf (by rw [if_neg c] at hm; exact hm))

theorem r_min (S : CallFix p m c cc nL s args TB own) (hls : ls.size = nL) (hlk : Cond.methodLink own idx Lib.Math.min.name ∈ TB ∧ Cond.static Lib.Math.min.name ∈ TB ∧ Cond.initialized "java/lang/Math" ∈ TB ∧ Cond.code Lib.Math.min.name Lib.Math.min.code 2 (some .int) ∈ TB) (hR : 1 ≤ R.frames ∧ (rest.map fun v => v.category).sum + 13 ≤ R.locals) (hcs : cells ≤ R.cells ∧ slots ≤ R.slots) {a b : Int32} (hdg : decode cc pc = .ok (.invokestatic idx, 3))
    (kk : W p l e R s m args below meth c H locs cells slots Q (F0 m (pc + 3) ls (.int (if b < a then b else a) :: rest))) : W p l e R s m args below meth c H locs cells slots Q (F0 m pc ls (.int b :: .int a :: rest)) :=
  va_mmin S.1 S.2.1 (S.2.2.1.trans hls.symm) S.2.2.2.1 (S.2.2.2.2 _ hlk.1) (S.2.2.2.2 _ hlk.2.1) (S.2.2.2.2 _ hlk.2.2.1) (S.2.2.2.2 _ hlk.2.2.2) hR.1 hR.2 hcs.1 hcs.2 hdg kk
theorem r_max (S : CallFix p m c cc nL s args TB own) (hls : ls.size = nL) (hlk : Cond.methodLink own idx Lib.Math.max.name ∈ TB ∧ Cond.static Lib.Math.max.name ∈ TB ∧ Cond.initialized "java/lang/Math" ∈ TB ∧ Cond.code Lib.Math.max.name Lib.Math.max.code 2 (some .int) ∈ TB) (hR : 1 ≤ R.frames ∧ (rest.map fun v => v.category).sum + 13 ≤ R.locals) (hcs : cells ≤ R.cells ∧ slots ≤ R.slots) {a b : Int32} (hdg : decode cc pc = .ok (.invokestatic idx, 3))
    (kk : W p l e R s m args below meth c H locs cells slots Q (F0 m (pc + 3) ls (.int (if a < b then b else a) :: rest))) : W p l e R s m args below meth c H locs cells slots Q (F0 m pc ls (.int b :: .int a :: rest)) :=
  va_mmax S.1 S.2.1 (S.2.2.1.trans hls.symm) S.2.2.2.1 (S.2.2.2.2 _ hlk.1) (S.2.2.2.2 _ hlk.2.1) (S.2.2.2.2 _ hlk.2.2.1) (S.2.2.2.2 _ hlk.2.2.2) hR.1 hR.2 hcs.1 hcs.2 hdg kk
theorem b_sw {P : Prop} {v k : Int32} {A B : Option X} (hm : (if v = k then A else B) = some x) (kt : v = k → A = some x → P) (kf : ¬ v = k → B = some x → P) : P := by
  by_cases h : v = k
  · rw [if_pos h] at hm
    exact kt h hm
  · rw [if_neg h] at hm
    exact kf h hm
theorem r_top {v : Int32} {A : Int32 → Option X} (hm : lt' v A = some x) (kk : ∀ y : Int32, A y = some x → W p l e R s m args below meth c H locs cells slots Q (F0 m pc ls (.int y :: rest))) : W p l e R s m args below meth c H locs cells slots Q (F0 m pc ls (.int v :: rest)) := kk v hm
theorem r_iinc (S : CallFix p m c cc nL s args TB own) {i k : Nat} {z : Int} {a b : Int32} {lv : List (Nat × Value)} {A : Int32 → Option X} (hm : lt' (a + b) A = some x) (hdg : decode cc pc = .ok (.iinc i z, 3)) (h : lv_has ls nL lv) (hk : lv[k]? = some (i, .int a)) (hb : Int32.ofInt z = b) (hn : i < nL)
    (kk : ∀ (v : Int32) (ls' : Array Slot), A v = some x → lv_has ls' nL ((i, Value.int v) :: lv.filter (fun q => !(q.1 == i) && !(q.1 + 1 == i && q.2.category == 2))) → W p l e R s m args below meth c H locs cells slots Q (F0 m (pc + 3) ls' rest)) : W p l e R s m args below meth c H locs cells slots Q (F0 m pc ls rest) :=
  lv_iinc S.1 S.2.1 hdg h hk (v := a + b) (by rw [hb]) hn rfl (fun ls' hl => kk _ ls' hm hl)
end BASE2
/-- a walk from a place of a method that answers an int, or nothing -/
def WI (p : Program) (l : Launch) (e : Env) (R : Room) (s : State) (m : MethodId) (args : Array Value) (below : List Frame) (meth : Method) (c : Code) (D : va_G) (cI cR : ClassId) (n : Nat) (K L ad : Nat → Nat) (nL : Nat) (x : Int32 × Mem) (μ : Mem) (pc : Nat) (lv : List (Nat × Value)) (st : List Value) : Prop :=
  ∀ (H : Heap) (locs : List Loc) (ls : Array Slot), wo D cI cR n K L ad μ H → va_S (Ag n ad) s.heap H locs → lv_has ls nL lv → W p l e R s m args below meth c H locs 0 0 (QI D cI cR n K L ad below args s x) (F0 m pc ls st)
def WV (p : Program) (l : Launch) (e : Env) (R : Room) (s : State) (m : MethodId) (args : Array Value) (below : List Frame) (meth : Method) (c : Code) (D : va_G) (cI cR : ClassId) (n : Nat) (K L ad : Nat → Nat) (nL : Nat) (x : Mem) (μ : Mem) (pc : Nat) (lv : List (Nat × Value)) (st : List Value) : Prop :=
  ∀ (H : Heap) (locs : List Loc) (ls : Array Slot), wo D cI cR n K L ad μ H → va_S (Ag n ad) s.heap H locs → lv_has ls nL lv → W p l e R s m args below meth c H locs 0 0 (QV D cI cR n K L ad below args s x) (F0 m pc ls st)

theorem Ci.ofW {l : Launch} {y : MethodName} {cy : ByteArray} {my : Nat} {ry : Option FieldType} {rm : Room} {D : va_G} {cI cR : ClassId} {n : Nat} {K L ad : Nat → Nat} {av : List Value} {f : Mem → Option (Int32 × Mem)} (hy : plainName y.cls = true) (hn : (lg_sl av).length ≤ my)
    (body : ∀ (μ : Mem) (x : Int32 × Mem), f μ = some x → ∀ (p : Program) (e : Env) (s : State) (m : MethodId) (args : Array Value) (below : List Frame) (meth : Method) (c : Code) (ls : Array Slot), CallFix p m c cy my s args TB y.cls → meth.sig.returnType = ry ∧ meth.locks = false → gok D cI cR n K L ad s → wo D cI cR n K L ad μ s.heap → va_S (Ag n ad) s.heap s.heap [] → lv_has ls my (lv_args 0 av) → W p l e rm s m args below meth c s.heap [] 0 0 (QI D cI cR n K L ad below args s x) (F0 m 0 ls [])) : Ci l y cy my ry rm D cI cR n K L ad av f := by
  intro μ x hm
  refine Met.ofW (cc := cy) (maxL := my) (ret := ry) hy rfl ?_
  intro p e s m args below meth c s₁ B hml hv
  obtain ⟨rfl, hP, hG⟩ := hv
  have hts := atoms_spec (ws := Cond.code y cy my ry :: TB) B.pre
  rw [lg_entry_eq]
  exact body μ x hm p e s m av.toArray below meth c _ ⟨B.exec, B.bytes, hml, findClass_of_methodNamed B.named, fun w hw => hts w (List.mem_cons_of_mem _ hw)⟩ ⟨B.returns, B.notSynchronized⟩ hG hP va_S.rf (lv_entry av hn)

theorem Cv.ofW {l : Launch} {y : MethodName} {cy : ByteArray} {my : Nat} {ry : Option FieldType} {rm : Room} {D : va_G} {cI cR : ClassId} {n : Nat} {K L ad : Nat → Nat} {av : List Value} {f : Mem → Option (Mem)} (hy : plainName y.cls = true) (hn : (lg_sl av).length ≤ my)
    (body : ∀ (μ x : Mem), f μ = some x → ∀ (p : Program) (e : Env) (s : State) (m : MethodId) (args : Array Value) (below : List Frame) (meth : Method) (c : Code) (ls : Array Slot), CallFix p m c cy my s args TB y.cls → meth.sig.returnType = ry ∧ meth.locks = false → gok D cI cR n K L ad s → wo D cI cR n K L ad μ s.heap → va_S (Ag n ad) s.heap s.heap [] → lv_has ls my (lv_args 0 av) → W p l e rm s m args below meth c s.heap [] 0 0 (QV D cI cR n K L ad below args s x) (F0 m 0 ls [])) : Cv l y cy my ry rm D cI cR n K L ad av f := by
  intro μ x hm
  refine Met.ofW (cc := cy) (maxL := my) (ret := ry) hy rfl ?_
  intro p e s m args below meth c s₁ B hml hv
  obtain ⟨rfl, hP, hG⟩ := hv
  have hts := atoms_spec (ws := Cond.code y cy my ry :: TB) B.pre
  rw [lg_entry_eq]
  exact body μ x hm p e s m av.toArray below meth c _ ⟨B.exec, B.bytes, hml, findClass_of_methodNamed B.named, fun w hw => hts w (List.mem_cons_of_mem _ hw)⟩ ⟨B.returns, B.notSynchronized⟩ hG hP va_S.rf (lv_entry av hn)
