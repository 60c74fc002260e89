theorem oi_i : Cond.instanceMethod objectInit ∈ TB := tb1 23 (by decide +kernel) rfl
theorem oi_c : Cond.code objectInit ⟨#[0xb1]⟩ 1 none ∈ TB := tb1 24 (by decide +kernel) rfl
theorem ac_i : Cond.arrayClass .int ∈ TB := tb1 44 (by decide +kernel) rfl
theorem kX0_3o : Cond.methodLink RX0 3 objectInit ∈ TB := tb1 72 (by decide +kernel) rfl
theorem kX0_9c : Cond.classLink RX0 9 RX3 ∈ TB := tb1 73 (by decide +kernel) rfl
theorem kX1_3o : Cond.methodLink RX1 3 objectInit ∈ TB := tb1 122 (by decide +kernel) rfl
theorem kX1_9c : Cond.classLink RX1 9 RX3 ∈ TB := tb1 123 (by decide +kernel) rfl
theorem kX2_3o : Cond.methodLink RX2 3 objectInit ∈ TB := tb1 57 (by decide +kernel) rfl
theorem kX2_9c : Cond.classLink RX2 9 RX3 ∈ TB := tb1 58 (by decide +kernel) rfl
theorem kX3_1o : Cond.methodLink RX3 1 objectInit ∈ TB := tb1 36 (by decide +kernel) rfl
theorem kX4_3o : Cond.methodLink RX4 3 objectInit ∈ TB := tb1 141 (by decide +kernel) rfl
theorem kX4_9c : Cond.classLink RX4 9 RX3 ∈ TB := tb1 142 (by decide +kernel) rfl
theorem kX5_3o : Cond.methodLink RX5 3 objectInit ∈ TB := tb1 104 (by decide +kernel) rfl
theorem kX5_9c : Cond.classLink RX5 9 RX3 ∈ TB := tb1 105 (by decide +kernel) rfl
theorem kX6_3o : Cond.methodLink RX6 3 objectInit ∈ TB := tb1 30 (by decide +kernel) rfl
theorem kX6_9c : Cond.classLink RX6 9 RX3 ∈ TB := tb1 31 (by decide +kernel) rfl
theorem kX7_3o : Cond.methodLink RX7 3 objectInit ∈ TB := tb1 183 (by decide +kernel) rfl
theorem kX7_9c : Cond.classLink RX7 9 RX3 ∈ TB := tb1 184 (by decide +kernel) rfl
theorem kX8_3o : Cond.methodLink RX8 3 objectInit ∈ TB := tb1 22 (by decide +kernel) rfl
theorem kX8_9c : Cond.classLink RX8 9 RX6 ∈ TB := tb1 25 (by decide +kernel) rfl
theorem kX8_16c : Cond.classLink RX8 16 RX2 ∈ TB := tb1 52 (by decide +kernel) rfl
theorem kX8_23c : Cond.classLink RX8 23 RX0 ∈ TB := tb1 67 (by decide +kernel) rfl
theorem kX8_33c : Cond.classLink RX8 33 RX3 ∈ TB := tb1 97 (by decide +kernel) rfl
theorem kX8_42c : Cond.classLink RX8 42 RX5 ∈ TB := tb1 99 (by decide +kernel) rfl
theorem kX8_49c : Cond.classLink RX8 49 RX1 ∈ TB := tb1 117 (by decide +kernel) rfl
theorem kX8_56c : Cond.classLink RX8 56 RX4 ∈ TB := tb1 136 (by decide +kernel) rfl
theorem kX8_63c : Cond.classLink RX8 63 RX7 ∈ TB := tb1 178 (by decide +kernel) rfl
theorem kX9_1o : Cond.methodLink RX9 1 objectInit ∈ TB := tb4 116 (by decide +kernel) rfl
theorem kL_7c : Cond.classLink RL 7 RX8 ∈ TB := tb1 17 (by decide +kernel) rfl
theorem kL_10c : Cond.classLink RL 10 RX9 ∈ TB := tb4 111 (by decide +kernel) rfl
theorem inX0 : Cond.instantiable RX0 7 ∈ TB := tb1 68 (by decide +kernel) rfl
theorem iniX0 : Cond.initialized RX0 ∈ TB := tb1 6 (by decide +kernel) rfl
theorem iiX0 : Cond.instanceMethod yX0_init ∈ TB := tb1 70 (by decide +kernel) rfl
theorem icX0 : Cond.code yX0_init cX0_init 1 none ∈ TB := tb1 71 rfl rfl
theorem inX1 : Cond.instantiable RX1 3 ∈ TB := tb1 118 (by decide +kernel) rfl
theorem iniX1 : Cond.initialized RX1 ∈ TB := tb1 8 (by decide +kernel) rfl
theorem iiX1 : Cond.instanceMethod yX1_init ∈ TB := tb1 120 (by decide +kernel) rfl
theorem icX1 : Cond.code yX1_init cX1_init 2 none ∈ TB := tb1 121 rfl rfl
theorem inX2 : Cond.instantiable RX2 2 ∈ TB := tb1 53 (by decide +kernel) rfl
theorem iniX2 : Cond.initialized RX2 ∈ TB := tb1 5 (by decide +kernel) rfl
theorem iiX2 : Cond.instanceMethod yX2_init ∈ TB := tb1 55 (by decide +kernel) rfl
theorem icX2 : Cond.code yX2_init cX2_init 1 none ∈ TB := tb1 56 rfl rfl
theorem inX3 : Cond.instantiable RX3 1 ∈ TB := tb1 32 (by decide +kernel) rfl
theorem iniX3 : Cond.initialized RX3 ∈ TB := tb1 3 (by decide +kernel) rfl
theorem iiX3 : Cond.instanceMethod yX3_init ∈ TB := tb1 34 (by decide +kernel) rfl
theorem icX3 : Cond.code yX3_init cX3_init 2 none ∈ TB := tb1 35 rfl rfl
theorem inX4 : Cond.instantiable RX4 11 ∈ TB := tb1 137 (by decide +kernel) rfl
theorem iniX4 : Cond.initialized RX4 ∈ TB := tb1 9 (by decide +kernel) rfl
theorem iiX4 : Cond.instanceMethod yX4_init ∈ TB := tb1 139 (by decide +kernel) rfl
theorem icX4 : Cond.code yX4_init cX4_init 1 none ∈ TB := tb1 140 rfl rfl
theorem inX5 : Cond.instantiable RX5 3 ∈ TB := tb1 100 (by decide +kernel) rfl
theorem iniX5 : Cond.initialized RX5 ∈ TB := tb1 7 (by decide +kernel) rfl
theorem iiX5 : Cond.instanceMethod yX5_init ∈ TB := tb1 102 (by decide +kernel) rfl
theorem icX5 : Cond.code yX5_init cX5_init 1 none ∈ TB := tb1 103 rfl rfl
theorem inX6 : Cond.instantiable RX6 2 ∈ TB := tb1 26 (by decide +kernel) rfl
theorem iniX6 : Cond.initialized RX6 ∈ TB := tb1 2 (by decide +kernel) rfl
theorem iiX6 : Cond.instanceMethod yX6_init ∈ TB := tb1 28 (by decide +kernel) rfl
theorem icX6 : Cond.code yX6_init cX6_init 1 none ∈ TB := tb1 29 rfl rfl
theorem inX7 : Cond.instantiable RX7 3 ∈ TB := tb1 179 (by decide +kernel) rfl
theorem iniX7 : Cond.initialized RX7 ∈ TB := tb1 10 (by decide +kernel) rfl
theorem iiX7 : Cond.instanceMethod yX7_init ∈ TB := tb1 181 (by decide +kernel) rfl
theorem icX7 : Cond.code yX7_init cX7_init 1 none ∈ TB := tb1 182 rfl rfl
theorem inX8 : Cond.instantiable RX8 9 ∈ TB := tb1 18 (by decide +kernel) rfl
theorem iniX8 : Cond.initialized RX8 ∈ TB := tb1 1 (by decide +kernel) rfl
theorem iiX8 : Cond.instanceMethod yX8_init ∈ TB := tb1 20 (by decide +kernel) rfl
theorem icX8 : Cond.code yX8_init cX8_init 2 none ∈ TB := tb1 21 rfl rfl
theorem inX9 : Cond.instantiable RX9 31 ∈ TB := tb4 112 (by decide +kernel) rfl
theorem iniX9 : Cond.initialized RX9 ∈ TB := tb1 15 (by decide +kernel) rfl
theorem iiX9 : Cond.instanceMethod yX9_init ∈ TB := tb4 114 (by decide +kernel) rfl
theorem icX9 : Cond.code yX9_init cX9_init 1 none ∈ TB := tb4 115 rfl rfl
/-! making objects -/
def KPc (D : va_G) (cI cR : ClassId) (av : List Value) (h0 : Nat) (e0 : va_E) (X : State → Prop) (sz : Nat) : Array Value → State → Prop := va_Pc av (fun U => U.heap.size = sz ∧ va_P D vwCl [(h0, e0)] U.heap ∧ va_K D vwCl (tyG cI cR) U ∧ X U)
def KQc (D : va_G) (cI cR : ClassId) (h0 : Nat) (e0 : va_E) (nw : (Nat → Nat) → va_W) (sz : Nat) : Array Value → State → Outcome → State → Prop := va_Qv (fun (_ : Nat → Nat) => True) (fun u t => va_P D vwCl (nw u) t.heap ∧ va_K D vwCl (tyG cI cR) t ∧ va_D (va_A [(h0, e0)] sz) (nw u)) (va_A [(h0, e0)] sz)
def Ki (l : Launch) (y : MethodName) (cy : ByteArray) (my : Nat) (rm : Room) (D : va_G) (cI cR : ClassId) (av : List Value) (h0 : Nat) (e0 : va_E) (X : State → Prop) (nw : (Nat → Nat) → va_W) (mc ms : Nat) : Prop :=
  ∀ sz : Nat, Met l y (Cond.code y cy my none :: TB) rm (KPc D cI cR av h0 e0 X sz) (KQc D cI cR h0 e0 nw sz) mc ms (va_A [(h0, e0)] sz)
theorem nd_range : ∀ (l : List Nat), l.Nodup → va_nd l = true
  | [], _ => rfl
  | a :: l, h => by
    have h1 := List.nodup_cons.mp h
    simp only [va_nd, Bool.and_eq_true, decide_eq_true_eq]
    exact ⟨h1.1, nd_range l h1.2⟩
theorem va_D.one {A : Nat → Prop} {q : Nat} {e : va_E} (h : A q) : va_D A [(q, e)] := by
  refine ⟨fun i j x y hi hj _ => ?_, fun k x hk => ?_⟩
  · have a := (List.getElem?_eq_some_iff.mp hi).1
    have b := (List.getElem?_eq_some_iff.mp hj).1
    simp at a b
    omega
  · have a := List.mem_of_getElem? hk
    simp at a
    rw [a]
    exact h
theorem cA_eq {D : va_G} {cI cR cA : ClassId} {s : State} (h : va_K D vwCl (tyG cI cR ++ [(cA, .int)]) s) : cA = cI := by
  have h1 := (h.2 0 (cI, .int) rfl).2
  have h2 := (h.2 2 (cA, .int) rfl).2
  exact Option.some.inj (h2.symm.trans h1)
theorem cQ_eq {D : va_G} {cI cR cA : ClassId} {s : State} (h : va_K D vwCl (tyG cI cR ++ [(cA, .object RX3)]) s) : cA = cR := by
  obtain ⟨_, _, _, _, _, h1⟩ := (h.2 1 (cR, .object RX3) rfl).2
  obtain ⟨_, _, _, _, _, h2⟩ := (h.2 2 (cA, .object RX3) rfl).2
  exact Option.some.inj (h2.symm.trans h1)
section MAKE
variable {p : Program} {l : Launch} {e : Env} {R : Room} {s : State} {m : MethodId} {args : Array Value} {below : List Frame} {meth : Method} {c : Code} {H : Heap} {locs : List Loc} {cells slots : Nat} {Q : State → Prop}
variable {cc : ByteArray} {pc : Nat} {ls : Array Slot} {rest st : List Value} {D : va_G} {cI cR : ClassId} {A : Nat → Prop} {ws : va_W} {q : Nat} {e0 : va_E} {own : String} {nL idx : Nat}
theorem m_in : (ws ++ [(q, e0)])[ws.length]? = some (q, e0) := by simp
theorem m_free (hD : va_D A (ws ++ [(q, e0)])) (hS : va_S A s.heap H locs) (hA : ∀ x : Nat, s.heap.size ≤ x → A x) : ∀ x : Nat, va_A [(q, e0)] H.size x → A x := by
  intro x hx
  rcases hx with ⟨k, e, hk⟩ | hx
  · have a := List.mem_of_getElem? hk
    simp at a
    rw [a.1]
    exact hD.2 _ _ m_in
  · exact hA x (Nat.le_trans hS.1 hx)
theorem r_ictor {nw : (Nat → Nat) → va_W} {mc ms : Nat} {a : Array Value} (hP : va_P D vwCl (ws ++ [(q, e0)]) H) (hD : va_D A (ws ++ [(q, e0)])) (hS : va_S A s.heap H locs) (hA : ∀ x : Nat, s.heap.size ≤ x → A x)
    (hrun : va_Run p l e R s m args below meth c H locs cells slots mc ms (F0 m pc ls st) rest (KQc D cI cR q e0 nw H.size a) (va_A [(q, e0)] H.size))
    (kk : ∀ (u : Nat → Nat) (H1 : Heap) (locs1 : List Loc), va_P D vwCl (ws ++ nw u) H1 → va_D A (ws ++ nw u) → va_S A s.heap H1 locs1 → W p l e R s m args below meth c H1 locs1 (cells + mc) (slots + ms) Q (F0 m (pc + 3) ls rest)) : W p l e R s m args below meth c H locs cells slots Q (F0 m pc ls st) := by
  have hFc := m_free hD hS hA
  refine va_callv hrun hS (fun x _ h => hFc x h) hFc (fun u t H1 locs1 ht hvm hw hB hz1 hk1 hS1 => ?_)
  subst ht
  obtain ⟨hP1, hK1, hD1⟩ := hB
  obtain ⟨hP2, hD2⟩ := va_join (wc := [(q, e0)]) (wr := ws) (w1 := nw u) hP hD [ws.length] (List.range ws.length) (by simp) (by
    apply List.ext_getElem?
    intro i
    by_cases hi : i < ws.length
    · simp [hi, List.getElem?_append_left hi]
    · simp [hi]) (nd_range _ List.nodup_range) (fun i hi h => by simp at hi h; omega) hk1 hFc hP1 hD1
  exact kk u t.heap locs1 hP2 hD2 hS1
theorem KPc.blind {av : List Value} {X : State → Prop} {sz : Nat} (hX : ∀ (a : Array Value) (U : State) (g : JFrame) (mk : MethodId), X U → X (U.calling g mk a)) : FrameBlind (KPc D cI cR av q e0 X sz) := fun a U g mk h => ⟨h.1, h.2.1, h.2.2.1, va_K.moved (u := U) (U := U.calling g mk a) (Vm.Alike.refl U.vm) h.2.2.2.1, hX a U g mk h.2.2.2.2⟩
theorem good_I {y : MethodName} {cy : ByteArray} {my : Nat} (hcd : Cond.code y cy my none ∈ TB) : GoodIn TB (Cond.code y cy my none :: TB) := by
  apply good_tb0
  intro w hw
  rcases List.mem_cons.mp hw with rfl | h
  · exact hcd
  · exact h
theorem r_runI {y : MethodName} {cy : ByteArray} {my mc ms : Nat} {rm : Room} {As : List Value} {nw : (Nat → Nat) → va_W} {X : State → Prop} (S : CallFix p m c cc nL s args TB own) (hK : va_K D vwCl (tyG cI cR) s) (hP : va_P D vwCl (ws ++ [(q, e0)]) H) (hC : Ki l y cy my rm D cI cR (.ref q :: As) q e0 X nw mc ms) (hcd : Cond.code y cy my none ∈ TB) (hii : Cond.instanceMethod y ∈ TB) (hini : Cond.initialized y.cls ∈ TB) (hlk : Cond.methodLink own idx y ∈ TB)
    (hd : y.cls ≠ "java/lang/invoke/MethodHandle" ∧ y.cls ≠ "java/lang/invoke/VarHandle" ∧ (parseMethodDescriptor y.desc).map (fun d => d.parameters.length) = some As.length) (hy : y.name = "<init>") (hrm : rm.cells = mc ∧ rm.slots = ms) (hR : rm.frames + 1 ≤ R.frames ∧ 8 + (my + 11) + rm.locals ≤ R.locals) (hXb : ∀ (a : Array Value) (U : State) (g : JFrame) (mk : MethodId), X U → X (U.calling g mk a)) (hX : ∀ U : State, U.heap = H → s.WarmedH U.vm → X U) (hls : ls.size = nL) (hst : As.reverse ++ .ref q :: rest = st) (hro : (rest.map fun v => v.category).sum ≤ 8) (hcs : cells + mc ≤ R.cells ∧ slots + ms ≤ R.slots) (hdg : decode cc pc = .ok (.invokespecial idx, 3)) :
    va_Run p l e R s m args below meth c H locs cells slots mc ms (F0 m pc ls st) rest (KQc D cI cR q e0 nw H.size (Value.ref q :: As).toArray) (va_A [(q, e0)] H.size) := by
  subst hst
  have hPc : va_P D vwCl [(q, e0)] H := hP.sub [ws.length] (by simp)
  exact va_runI (As := As) (rest := rest) S (hC H.size) (cwI As.length S.2.2.2.2 (good_I hcd) rfl hrm.1 hrm.2 (S.2.2.2.2 _ hini) (S.2.2.2.2 _ hlk) (S.2.2.2.2 _ hii) hy hd hR) ⟨KPc.blind hXb, fun U hU hW => ⟨rfl, by rw [hU], by rw [hU]; exact hPc, va_K.moved hW.alike hK, hX U hU hW⟩⟩ rfl rfl hls rfl (lv_room hro) hdg hcs
theorem r_runIN {y : MethodName} {cy : ByteArray} {my mc ms : Nat} {rm : Room} {As : List Value} {nw : (Nat → Nat) → va_W} {X : State → Prop} {host : String} (S : CallFix p m c cc nL s args TB own) (hK : va_K D vwCl (tyG cI cR) s) (hP : va_P D vwCl (ws ++ [(q, e0)]) H) (hC : Ki l y cy my rm D cI cR (.ref q :: As) q e0 X nw mc ms) (hcd : Cond.code y cy my none ∈ TB) (hii : Cond.instanceMethod y ∈ TB) (hini : Cond.initialized y.cls ∈ TB) (hlk : va_Nw (.methodLinkNest own idx y host) s)
    (hd : y.cls ≠ "java/lang/invoke/MethodHandle" ∧ y.cls ≠ "java/lang/invoke/VarHandle" ∧ (parseMethodDescriptor y.desc).map (fun d => d.parameters.length) = some As.length) (hy : y.name = "<init>") (hrm : rm.cells = mc ∧ rm.slots = ms) (hR : rm.frames + 1 ≤ R.frames ∧ 8 + (my + 11) + rm.locals ≤ R.locals) (hXb : ∀ (a : Array Value) (U : State) (g : JFrame) (mk : MethodId), X U → X (U.calling g mk a)) (hX : ∀ U : State, U.heap = H → s.WarmedH U.vm → X U) (hls : ls.size = nL) (hst : As.reverse ++ .ref q :: rest = st) (hro : (rest.map fun v => v.category).sum ≤ 8) (hcs : cells + mc ≤ R.cells ∧ slots + ms ≤ R.slots) (hdg : decode cc pc = .ok (.invokespecial idx, 3)) :
    va_Run p l e R s m args below meth c H locs cells slots mc ms (F0 m pc ls st) rest (KQc D cI cR q e0 nw H.size (Value.ref q :: As).toArray) (va_A [(q, e0)] H.size) := by
  subst hst
  have hPc : va_P D vwCl [(q, e0)] H := hP.sub [ws.length] (by simp)
  exact va_runIN (As := As) (rest := rest) S (hC H.size) ⟨va_cnB As.length S.2.2.2.2 (good_I hcd) rfl hrm.1 hrm.2 hlk (S.2.2.2.2 _ hini) hd hR, hy, S.2.2.2.2 _ hii⟩ ⟨KPc.blind hXb, fun U hU hW => ⟨rfl, by rw [hU], by rw [hU]; exact hPc, va_K.moved hW.alike hK, hX U hU hW⟩⟩ rfl rfl hls rfl (lv_room hro) hdg hcs
end MAKE

theorem Ki.ofW {l : Launch} {y : MethodName} {cy : ByteArray} {my : Nat} {rm : Room} {D : va_G} {cI cR : ClassId} {av : List Value} {h0 : Nat} {e0 : va_E} {X : State → Prop} {nw : (Nat → Nat) → va_W} {mc ms : Nat} (hy : plainName y.cls = true) (hy2 : y.name = "<init>") (hn : (lg_sl av).length ≤ my)
    (body : ∀ (p : Program) (e : Env) (s : State) (m : MethodId) (args : Array Value) (below : List Frame) (meth : Method) (c : Code) (ls : Array Slot) (A : Nat → Prop), CallFix p m c cy my s args TB y.cls → meth.sig.returnType = none ∧ meth.locks = false ∧ meth.name = "<init>" → va_K D vwCl (tyG cI cR) s → X s → va_P D vwCl [(h0, e0)] s.heap → va_D A [(h0, e0)] → va_S A s.heap s.heap [] → (∀ x : Nat, s.heap.size ≤ x → A x) → lv_has ls my (lv_args 0 av) → W p l e rm s m args below meth c s.heap [] 0 0 (MQ below (va_Qv (fun (_ : Nat → Nat) => True) (fun u t => va_P D vwCl (nw u) t.heap ∧ va_K D vwCl (tyG cI cR) t ∧ va_D A (nw u)) A) args s mc ms A) (F0 m 0 ls [])) : Ki l y cy my rm D cI cR av h0 e0 X nw mc ms := by
  intro sz
  refine Met.ofW (cc := cy) (maxL := my) (ret := none) hy rfl ?_
  intro p e s m args below meth c s₁ B hml hv
  obtain ⟨rfl, hsz, hP, hK, hX⟩ := hv
  have hts := atoms_spec (ws := Cond.code y cy my none :: TB) B.pre
  rw [lg_entry_eq]
  subst hsz
  exact body p e s m av.toArray below meth c _ (va_A [(h0, e0)] s.heap.size) ⟨B.exec, B.bytes, hml, findClass_of_methodNamed B.named, fun w hw => hts w (List.mem_cons_of_mem _ hw)⟩ ⟨B.returns, B.notSynchronized, (name_of_methodNamed B.named B.method).1.trans hy2⟩ hK hX hP (va_D.one (Or.inl ⟨0, e0, rfl⟩)) va_S.rf (fun x h => Or.inr h) (lv_entry av hn)

set_option maxHeartbeats 4000000 in
set_option maxRecDepth 100000 in
theorem iX3 (l : Launch) (D : va_G) (cI cR : ClassId) (h0 N : Nat) (hN : 0 < N ∧ N ≤ 2000) {z : Int32} (hz : z = nI N) : Ki l yX3_init cX3_init 2 { frames := 1, cells := 1, slots := N, locals := 40 } D cI cR [.ref h0, .int z] h0 (.inr (3, [.null])) (fun _ => True) (fun u => [(h0, .inr (3, [.ref (u 1)])), (u 1, .inl (cI, N, .inl (fun _ => 0)))]) 1 N := by
  subst hz
  refine Ki.ofW (by decide) rfl (Nat.le_of_ble_eq_true rfl) ?_
  intro p e s m args below meth c ls A S hr hK hX hP hD hS hA hl
  have hx := S.1
  have hb := S.2.1
  have hl : lv_has ls 2 [(0, .ref h0), (1, .int (nI N))] := hl
  refine lv_aload_n hx hb dX3_init_0 rfl (lv_at hl 0 rfl) ?_
  refine W.objInit hx hb S.2.2.2.1 (S.2.2.2.2 _ kX3_1o) (S.2.2.2.2 _ oi_i) (S.2.2.2.2 _ oi_c) rfl (by rw [S.2.2.1]; exact hl.1) rfl dX3_init_1 (Nat.le_of_ble_eq_true rfl) (Nat.le_of_ble_eq_true rfl) ?_
  refine W.eq (g2 := F0 m 4 ls []) rfl ?_
  refine lv_aload_n hx hb dX3_init_4 rfl (lv_at hl 0 rfl) ?_
  refine lv_iconst (v := 0) hx hb dX3_init_5 (by decide) ?_
  refine lv_iload_n hx hb dX3_init_6 rfl (lv_at hl 1 rfl) ?_
  refine r_max S hl.1 kX3_7 ⟨Nat.le_of_ble_eq_true rfl, Nat.le_of_ble_eq_true rfl⟩ ⟨Nat.zero_le _, Nat.zero_le _⟩ dX3_init_7 ?_
  have e1 : (if (0 : Int32) < nI N then nI N else 0) = nI N := by
    rw [if_pos]
    rw [← nI_0]
    exact nI_lt hN.1 (by omega)
  rw [e1]
  refine va_newa (atype := .int) (ty := .int) (a0 := (N, .inl (fun _ => 0))) (N' := N) hx hb (S.2.2.2.2 _ ac_i) rfl hK hP hD hS hA (fun _ => rfl) (nI_pos (by omega)) (nI_clamp (by omega)) (by show N * 4 ≤ _; omega) (Nat.le_refl _) (by show 0 + N ≤ N; omega) dX3_init_10 (fun q cA H hK2 hP hD hS => ?_)
  have ec := cA_eq hK2
  subst ec
  have hP : va_P D vwCl [(h0, .inr (3, [.null])), (q, .inl (cA, N, .inl (fun _ => 0)))] H := hP
  have hD : va_D A [(h0, .inr (3, [.null])), (q, .inl (cA, N, .inl (fun _ => 0)))] := hD
  refine va_putF (D := D) (ci := 3) (v := .ref q) (ty := .array .int) (C := RX3) (T := TX3) (N := 1) hx hb S.2.2.2.2 iwX3 tyX3 tyX3_ok nmX3 S.2.2.2.1 hK hP hD hS 0 rfl rfl 0 (by decide) (S.2.2.2.2 _ kX3_13) (fun _ h9 => h9) rfl hr.2.2 rfl (by decide +kernel) rfl rfl (Nat.le_of_ble_eq_true rfl) dX3_init_12 (fun H locs hP hD hS => ?_)
  have hP : va_P D vwCl [(h0, .inr (3, [.ref q])), (q, .inl (cA, N, .inl (fun _ => 0)))] H := hP
  have hD : va_D A [(h0, .inr (3, [.ref q])), (q, .inl (cA, N, .inl (fun _ => 0)))] := hD
  refine W.widen (k := 1) (n := N) (by omega) (by omega) ?_
  exact W.vret (hlocks := hr.2.1) hx hb hr.1 (fun t ht hW => ⟨⟨(fun _ => q), rfl, trivial, by rw [ht]; exact hP, va_K.moved hW.alike hK, hD⟩, hS.F ht⟩) hS.2.2 dX3_init_15
set_option maxHeartbeats 4000000 in
set_option maxRecDepth 100000 in
theorem iX6 (l : Launch) (D : va_G) (cI cR : ClassId) (h0 : Nat) : Ki l yX6_init cX6_init 1 { frames := 2, cells := 2, slots := 201, locals := 80 } D cI cR [.ref h0] h0 (.inr (6, [.null, .int 0])) (fun _ => True) (fun u => [(h0, .inr (6, [.ref (u 1), .int 0])), (u 1, .inr (3, [.ref (u 2)])), (u 2, .inl (cI, 200, .inl (fun _ => 0)))]) 2 201 := by
  refine Ki.ofW (by decide) rfl (Nat.le_of_ble_eq_true rfl) ?_
  intro p e s m args below meth c ls A S hr hK hX hP hD hS hA hl
  have hx := S.1
  have hb := S.2.1
  have hl : lv_has ls 1 [(0, .ref h0)] := hl
  refine lv_aload_n hx hb dX6_init_0 rfl (lv_at hl 0 rfl) ?_
  refine W.objInit hx hb S.2.2.2.1 (S.2.2.2.2 _ kX6_3o) (S.2.2.2.2 _ oi_i) (S.2.2.2.2 _ oi_c) rfl (by rw [S.2.2.1]; exact hl.1) rfl dX6_init_1 (Nat.le_of_ble_eq_true rfl) (Nat.le_of_ble_eq_true rfl) ?_
  refine W.eq (g2 := F0 m 4 ls []) rfl ?_
  refine lv_aload_n hx hb dX6_init_4 rfl (lv_at hl 0 rfl) ?_
  refine va_new (ci := 3) (fs := [.null]) (C := RX3) (T := TX3) (N := 1) hx hb S.2.2.2.2 iwX3 tyX3 tyX3_ok S.2.2.2.1 (S.2.2.2.2 _ kX6_9c) (S.2.2.2.2 _ inX3) (S.2.2.2.2 _ iniX3) hK hP hD hS hA rfl (fun j hj => by rcases (show j = 0 by omega) with rfl <;> rfl) (Nat.le_of_ble_eq_true rfl) (Nat.le_of_ble_eq_true rfl) dX6_init_5 (fun q0 H hP hD hS => ?_)
  refine lv_dup hx hb dX6_init_8 rfl ?_
  refine lv_sipush (v := 200) hx hb dX6_init_9 (by decide) ?_
  refine r_ictor (ws := [(h0, .inr (6, [.null, .int 0]))]) (q := q0) (e0 := .inr (3, [.null])) hP hD hS hA (r_runI (As := [.int 200]) (rest := [.ref q0, .ref h0]) S hK hP (iX3 l D cI cR q0 200 (by decide) rfl) icX3 iiX3 iniX3 kX6_11 (by decide +kernel) rfl ⟨rfl, rfl⟩ ⟨Nat.le_of_ble_eq_true rfl, Nat.le_of_ble_eq_true rfl⟩ (fun _ _ _ _ _ => trivial) (fun _ _ _ => trivial) hl.1 rfl (Nat.le_of_ble_eq_true rfl) ⟨Nat.le_of_ble_eq_true rfl, Nat.le_of_ble_eq_true rfl⟩ dX6_init_12) (fun u0 H locs hP hD hS => ?_)
  have hP : va_P D vwCl [(h0, .inr (6, [.null, .int 0])), (q0, .inr (3, [.ref (u0 1)])), (u0 1, .inl (cI, 200, .inl (fun _ => 0)))] H := hP
  have hD : va_D A [(h0, .inr (6, [.null, .int 0])), (q0, .inr (3, [.ref (u0 1)])), (u0 1, .inl (cI, 200, .inl (fun _ => 0)))] := hD
  refine va_putF (D := D) (ci := 6) (v := .ref q0) (ty := .object RX3) (C := RX6) (T := TX6) (N := 2) hx hb S.2.2.2.2 iwX6 tyX6 tyX6_ok nmX6 S.2.2.2.1 hK hP hD hS 0 rfl rfl 0 (by decide) (S.2.2.2.2 _ kX6_14) (fun _ h9 => h9) rfl hr.2.2 rfl (by decide +kernel) rfl rfl (Nat.le_of_ble_eq_true rfl) dX6_init_15 (fun H locs hP hD hS => ?_)
  have hP : va_P D vwCl [(h0, .inr (6, [.ref q0, .int 0])), (q0, .inr (3, [.ref (u0 1)])), (u0 1, .inl (cI, 200, .inl (fun _ => 0)))] H := hP
  have hD : va_D A [(h0, .inr (6, [.ref q0, .int 0])), (q0, .inr (3, [.ref (u0 1)])), (u0 1, .inl (cI, 200, .inl (fun _ => 0)))] := hD
  refine W.widen (k := 2) (n := 201) (Nat.le_of_ble_eq_true rfl) (Nat.le_of_ble_eq_true rfl) ?_
  exact W.vret (hlocks := hr.2.1) hx hb hr.1 (fun t ht hW => ⟨⟨(fun k => match k with | 1 => q0 | 2 => u0 1 | _ => 0), rfl, trivial, by rw [ht]; exact hP, va_K.moved hW.alike hK, hD⟩, hS.F ht⟩) hS.2.2 dX6_init_18
set_option maxHeartbeats 4000000 in
set_option maxRecDepth 100000 in
theorem iX2 (l : Launch) (D : va_G) (cI cR : ClassId) (h0 : Nat) : Ki l yX2_init cX2_init 1 { frames := 2, cells := 2, slots := 5, locals := 80 } D cI cR [.ref h0] h0 (.inr (2, [.null, .int 0])) (fun _ => True) (fun u => [(h0, .inr (2, [.ref (u 1), .int 0])), (u 1, .inr (3, [.ref (u 2)])), (u 2, .inl (cI, 4, .inl (fun _ => 0)))]) 2 5 := by
  refine Ki.ofW (by decide) rfl (Nat.le_of_ble_eq_true rfl) ?_
  intro p e s m args below meth c ls A S hr hK hX hP hD hS hA hl
  have hx := S.1
  have hb := S.2.1
  have hl : lv_has ls 1 [(0, .ref h0)] := hl
  refine lv_aload_n hx hb dX2_init_0 rfl (lv_at hl 0 rfl) ?_
  refine W.objInit hx hb S.2.2.2.1 (S.2.2.2.2 _ kX2_3o) (S.2.2.2.2 _ oi_i) (S.2.2.2.2 _ oi_c) rfl (by rw [S.2.2.1]; exact hl.1) rfl dX2_init_1 (Nat.le_of_ble_eq_true rfl) (Nat.le_of_ble_eq_true rfl) ?_
  refine W.eq (g2 := F0 m 4 ls []) rfl ?_
  refine lv_aload_n hx hb dX2_init_4 rfl (lv_at hl 0 rfl) ?_
  refine va_new (ci := 3) (fs := [.null]) (C := RX3) (T := TX3) (N := 1) hx hb S.2.2.2.2 iwX3 tyX3 tyX3_ok S.2.2.2.1 (S.2.2.2.2 _ kX2_9c) (S.2.2.2.2 _ inX3) (S.2.2.2.2 _ iniX3) hK hP hD hS hA rfl (fun j hj => by rcases (show j = 0 by omega) with rfl <;> rfl) (Nat.le_of_ble_eq_true rfl) (Nat.le_of_ble_eq_true rfl) dX2_init_5 (fun q0 H hP hD hS => ?_)
  refine lv_dup hx hb dX2_init_8 rfl ?_
  refine lv_iconst (v := 4) hx hb dX2_init_9 (by decide) ?_
  refine r_ictor (ws := [(h0, .inr (2, [.null, .int 0]))]) (q := q0) (e0 := .inr (3, [.null])) hP hD hS hA (r_runI (As := [.int 4]) (rest := [.ref q0, .ref h0]) S hK hP (iX3 l D cI cR q0 4 (by decide) rfl) icX3 iiX3 iniX3 kX2_13 (by decide +kernel) rfl ⟨rfl, rfl⟩ ⟨Nat.le_of_ble_eq_true rfl, Nat.le_of_ble_eq_true rfl⟩ (fun _ _ _ _ _ => trivial) (fun _ _ _ => trivial) hl.1 rfl (Nat.le_of_ble_eq_true rfl) ⟨Nat.le_of_ble_eq_true rfl, Nat.le_of_ble_eq_true rfl⟩ dX2_init_10) (fun u0 H locs hP hD hS => ?_)
  have hP : va_P D vwCl [(h0, .inr (2, [.null, .int 0])), (q0, .inr (3, [.ref (u0 1)])), (u0 1, .inl (cI, 4, .inl (fun _ => 0)))] H := hP
  have hD : va_D A [(h0, .inr (2, [.null, .int 0])), (q0, .inr (3, [.ref (u0 1)])), (u0 1, .inl (cI, 4, .inl (fun _ => 0)))] := hD
  refine va_putF (D := D) (ci := 2) (v := .ref q0) (ty := .object RX3) (C := RX2) (T := TX2) (N := 2) hx hb S.2.2.2.2 iwX2 tyX2 tyX2_ok nmX2 S.2.2.2.1 hK hP hD hS 0 rfl rfl 0 (by decide) (S.2.2.2.2 _ kX2_16) (fun _ h9 => h9) rfl hr.2.2 rfl (by decide +kernel) rfl rfl (Nat.le_of_ble_eq_true rfl) dX2_init_13 (fun H locs hP hD hS => ?_)
  have hP : va_P D vwCl [(h0, .inr (2, [.ref q0, .int 0])), (q0, .inr (3, [.ref (u0 1)])), (u0 1, .inl (cI, 4, .inl (fun _ => 0)))] H := hP
  have hD : va_D A [(h0, .inr (2, [.ref q0, .int 0])), (q0, .inr (3, [.ref (u0 1)])), (u0 1, .inl (cI, 4, .inl (fun _ => 0)))] := hD
  refine W.widen (k := 2) (n := 5) (Nat.le_of_ble_eq_true rfl) (Nat.le_of_ble_eq_true rfl) ?_
  exact W.vret (hlocks := hr.2.1) hx hb hr.1 (fun t ht hW => ⟨⟨(fun k => match k with | 1 => q0 | 2 => u0 1 | _ => 0), rfl, trivial, by rw [ht]; exact hP, va_K.moved hW.alike hK, hD⟩, hS.F ht⟩) hS.2.2 dX2_init_16
set_option maxHeartbeats 4000000 in
set_option maxRecDepth 100000 in
theorem iX0 (l : Launch) (D : va_G) (cI cR : ClassId) (h0 : Nat) : Ki l yX0_init cX0_init 1 { frames := 2, cells := 8, slots := 197, locals := 80 } D cI cR [.ref h0] h0 (.inr (0, [.null, .null, .null, .null, .int 0, .int 0, .int 0])) (fun _ => True) (fun u => [(h0, .inr (0, [.ref (u 1), .ref (u 3), .ref (u 5), .ref (u 7), .int 0, .int 0, .int 20])), (u 1, .inr (3, [.ref (u 2)])), (u 2, .inl (cI, 6, .inl (fun _ => 0))), (u 3, .inr (3, [.ref (u 4)])), (u 4, .inl (cI, 9, .inl (fun _ => 0))), (u 5, .inr (3, [.ref (u 6)])), (u 6, .inl (cI, 9, .inl (fun _ => 0))), (u 7, .inr (3, [.ref (u 8)])), (u 8, .inl (cI, 169, .inl (fun _ => 0)))]) 8 197 := by
  refine Ki.ofW (by decide) rfl (Nat.le_of_ble_eq_true rfl) ?_
  intro p e s m args below meth c ls A S hr hK hX hP hD hS hA hl
  have hx := S.1
  have hb := S.2.1
  have hl : lv_has ls 1 [(0, .ref h0)] := hl
  refine lv_aload_n hx hb dX0_init_0 rfl (lv_at hl 0 rfl) ?_
  refine W.objInit hx hb S.2.2.2.1 (S.2.2.2.2 _ kX0_3o) (S.2.2.2.2 _ oi_i) (S.2.2.2.2 _ oi_c) rfl (by rw [S.2.2.1]; exact hl.1) rfl dX0_init_1 (Nat.le_of_ble_eq_true rfl) (Nat.le_of_ble_eq_true rfl) ?_
  refine W.eq (g2 := F0 m 4 ls []) rfl ?_
  refine lv_aload_n hx hb dX0_init_4 rfl (lv_at hl 0 rfl) ?_
  refine va_new (ci := 3) (fs := [.null]) (C := RX3) (T := TX3) (N := 1) hx hb S.2.2.2.2 iwX3 tyX3 tyX3_ok S.2.2.2.1 (S.2.2.2.2 _ kX0_9c) (S.2.2.2.2 _ inX3) (S.2.2.2.2 _ iniX3) hK hP hD hS hA rfl (fun j hj => by rcases (show j = 0 by omega) with rfl <;> rfl) (Nat.le_of_ble_eq_true rfl) (Nat.le_of_ble_eq_true rfl) dX0_init_5 (fun q0 H hP hD hS => ?_)
  refine lv_dup hx hb dX0_init_8 rfl ?_
  refine lv_bipush (v := 6) hx hb dX0_init_9 (by decide) ?_
  refine r_ictor (ws := [(h0, .inr (0, [.null, .null, .null, .null, .int 0, .int 0, .int 0]))]) (q := q0) (e0 := .inr (3, [.null])) hP hD hS hA (r_runI (As := [.int 6]) (rest := [.ref q0, .ref h0]) S hK hP (iX3 l D cI cR q0 6 (by decide) rfl) icX3 iiX3 iniX3 kX0_11 (by decide +kernel) rfl ⟨rfl, rfl⟩ ⟨Nat.le_of_ble_eq_true rfl, Nat.le_of_ble_eq_true rfl⟩ (fun _ _ _ _ _ => trivial) (fun _ _ _ => trivial) hl.1 rfl (Nat.le_of_ble_eq_true rfl) ⟨Nat.le_of_ble_eq_true rfl, Nat.le_of_ble_eq_true rfl⟩ dX0_init_11) (fun u0 H locs hP hD hS => ?_)
  have hP : va_P D vwCl [(h0, .inr (0, [.null, .null, .null, .null, .int 0, .int 0, .int 0])), (q0, .inr (3, [.ref (u0 1)])), (u0 1, .inl (cI, 6, .inl (fun _ => 0)))] H := hP
  have hD : va_D A [(h0, .inr (0, [.null, .null, .null, .null, .int 0, .int 0, .int 0])), (q0, .inr (3, [.ref (u0 1)])), (u0 1, .inl (cI, 6, .inl (fun _ => 0)))] := hD
  refine va_putF (D := D) (ci := 0) (v := .ref q0) (ty := .object RX3) (C := RX0) (T := TX0) (N := 7) hx hb S.2.2.2.2 iwX0 tyX0 tyX0_ok nmX0 S.2.2.2.1 hK hP hD hS 0 rfl rfl 0 (by decide) (S.2.2.2.2 _ kX0_14) (fun _ h9 => h9) rfl hr.2.2 rfl (by decide +kernel) rfl rfl (Nat.le_of_ble_eq_true rfl) dX0_init_14 (fun H locs hP hD hS => ?_)
  have hP : va_P D vwCl [(h0, .inr (0, [.ref q0, .null, .null, .null, .int 0, .int 0, .int 0])), (q0, .inr (3, [.ref (u0 1)])), (u0 1, .inl (cI, 6, .inl (fun _ => 0)))] H := hP
  have hD : va_D A [(h0, .inr (0, [.ref q0, .null, .null, .null, .int 0, .int 0, .int 0])), (q0, .inr (3, [.ref (u0 1)])), (u0 1, .inl (cI, 6, .inl (fun _ => 0)))] := hD
  refine lv_aload_n hx hb dX0_init_17 rfl (lv_at hl 0 rfl) ?_
  refine va_new (ci := 3) (fs := [.null]) (C := RX3) (T := TX3) (N := 1) hx hb S.2.2.2.2 iwX3 tyX3 tyX3_ok S.2.2.2.1 (S.2.2.2.2 _ kX0_9c) (S.2.2.2.2 _ inX3) (S.2.2.2.2 _ iniX3) hK hP hD hS hA rfl (fun j hj => by rcases (show j = 0 by omega) with rfl <;> rfl) (Nat.le_of_ble_eq_true rfl) (Nat.le_of_ble_eq_true rfl) dX0_init_18 (fun q1 H hP hD hS => ?_)
  refine lv_dup hx hb dX0_init_21 rfl ?_
  refine lv_bipush (v := 9) hx hb dX0_init_22 (by decide) ?_
  refine r_ictor (ws := [(h0, .inr (0, [.ref q0, .null, .null, .null, .int 0, .int 0, .int 0])), (q0, .inr (3, [.ref (u0 1)])), (u0 1, .inl (cI, 6, .inl (fun _ => 0)))]) (q := q1) (e0 := .inr (3, [.null])) hP hD hS hA (r_runI (As := [.int 9]) (rest := [.ref q1, .ref h0]) S hK hP (iX3 l D cI cR q1 9 (by decide) rfl) icX3 iiX3 iniX3 kX0_11 (by decide +kernel) rfl ⟨rfl, rfl⟩ ⟨Nat.le_of_ble_eq_true rfl, Nat.le_of_ble_eq_true rfl⟩ (fun _ _ _ _ _ => trivial) (fun _ _ _ => trivial) hl.1 rfl (Nat.le_of_ble_eq_true rfl) ⟨Nat.le_of_ble_eq_true rfl, Nat.le_of_ble_eq_true rfl⟩ dX0_init_24) (fun u1 H locs hP hD hS => ?_)
  have hP : va_P D vwCl [(h0, .inr (0, [.ref q0, .null, .null, .null, .int 0, .int 0, .int 0])), (q0, .inr (3, [.ref (u0 1)])), (u0 1, .inl (cI, 6, .inl (fun _ => 0))), (q1, .inr (3, [.ref (u1 1)])), (u1 1, .inl (cI, 9, .inl (fun _ => 0)))] H := hP
  have hD : va_D A [(h0, .inr (0, [.ref q0, .null, .null, .null, .int 0, .int 0, .int 0])), (q0, .inr (3, [.ref (u0 1)])), (u0 1, .inl (cI, 6, .inl (fun _ => 0))), (q1, .inr (3, [.ref (u1 1)])), (u1 1, .inl (cI, 9, .inl (fun _ => 0)))] := hD
  refine va_putF (D := D) (ci := 0) (v := .ref q1) (ty := .object RX3) (C := RX0) (T := TX0) (N := 7) hx hb S.2.2.2.2 iwX0 tyX0 tyX0_ok nmX0 S.2.2.2.1 hK hP hD hS 0 rfl rfl 1 (by decide) (S.2.2.2.2 _ kX0_20) (fun _ h9 => h9) rfl hr.2.2 rfl (by decide +kernel) rfl rfl (Nat.le_of_ble_eq_true rfl) dX0_init_27 (fun H locs hP hD hS => ?_)
  have hP : va_P D vwCl [(h0, .inr (0, [.ref q0, .ref q1, .null, .null, .int 0, .int 0, .int 0])), (q0, .inr (3, [.ref (u0 1)])), (u0 1, .inl (cI, 6, .inl (fun _ => 0))), (q1, .inr (3, [.ref (u1 1)])), (u1 1, .inl (cI, 9, .inl (fun _ => 0)))] H := hP
  have hD : va_D A [(h0, .inr (0, [.ref q0, .ref q1, .null, .null, .int 0, .int 0, .int 0])), (q0, .inr (3, [.ref (u0 1)])), (u0 1, .inl (cI, 6, .inl (fun _ => 0))), (q1, .inr (3, [.ref (u1 1)])), (u1 1, .inl (cI, 9, .inl (fun _ => 0)))] := hD
  refine lv_aload_n hx hb dX0_init_30 rfl (lv_at hl 0 rfl) ?_
  refine va_new (ci := 3) (fs := [.null]) (C := RX3) (T := TX3) (N := 1) hx hb S.2.2.2.2 iwX3 tyX3 tyX3_ok S.2.2.2.1 (S.2.2.2.2 _ kX0_9c) (S.2.2.2.2 _ inX3) (S.2.2.2.2 _ iniX3) hK hP hD hS hA rfl (fun j hj => by rcases (show j = 0 by omega) with rfl <;> rfl) (Nat.le_of_ble_eq_true rfl) (Nat.le_of_ble_eq_true rfl) dX0_init_31 (fun q2 H hP hD hS => ?_)
  refine lv_dup hx hb dX0_init_34 rfl ?_
  refine lv_bipush (v := 9) hx hb dX0_init_35 (by decide) ?_
  refine r_ictor (ws := [(h0, .inr (0, [.ref q0, .ref q1, .null, .null, .int 0, .int 0, .int 0])), (q0, .inr (3, [.ref (u0 1)])), (u0 1, .inl (cI, 6, .inl (fun _ => 0))), (q1, .inr (3, [.ref (u1 1)])), (u1 1, .inl (cI, 9, .inl (fun _ => 0)))]) (q := q2) (e0 := .inr (3, [.null])) hP hD hS hA (r_runI (As := [.int 9]) (rest := [.ref q2, .ref h0]) S hK hP (iX3 l D cI cR q2 9 (by decide) rfl) icX3 iiX3 iniX3 kX0_11 (by decide +kernel) rfl ⟨rfl, rfl⟩ ⟨Nat.le_of_ble_eq_true rfl, Nat.le_of_ble_eq_true rfl⟩ (fun _ _ _ _ _ => trivial) (fun _ _ _ => trivial) hl.1 rfl (Nat.le_of_ble_eq_true rfl) ⟨Nat.le_of_ble_eq_true rfl, Nat.le_of_ble_eq_true rfl⟩ dX0_init_37) (fun u2 H locs hP hD hS => ?_)
  have hP : va_P D vwCl [(h0, .inr (0, [.ref q0, .ref q1, .null, .null, .int 0, .int 0, .int 0])), (q0, .inr (3, [.ref (u0 1)])), (u0 1, .inl (cI, 6, .inl (fun _ => 0))), (q1, .inr (3, [.ref (u1 1)])), (u1 1, .inl (cI, 9, .inl (fun _ => 0))), (q2, .inr (3, [.ref (u2 1)])), (u2 1, .inl (cI, 9, .inl (fun _ => 0)))] H := hP
  have hD : va_D A [(h0, .inr (0, [.ref q0, .ref q1, .null, .null, .int 0, .int 0, .int 0])), (q0, .inr (3, [.ref (u0 1)])), (u0 1, .inl (cI, 6, .inl (fun _ => 0))), (q1, .inr (3, [.ref (u1 1)])), (u1 1, .inl (cI, 9, .inl (fun _ => 0))), (q2, .inr (3, [.ref (u2 1)])), (u2 1, .inl (cI, 9, .inl (fun _ => 0)))] := hD
  refine va_putF (D := D) (ci := 0) (v := .ref q2) (ty := .object RX3) (C := RX0) (T := TX0) (N := 7) hx hb S.2.2.2.2 iwX0 tyX0 tyX0_ok nmX0 S.2.2.2.1 hK hP hD hS 0 rfl rfl 2 (by decide) (S.2.2.2.2 _ kX0_23) (fun _ h9 => h9) rfl hr.2.2 rfl (by decide +kernel) rfl rfl (Nat.le_of_ble_eq_true rfl) dX0_init_40 (fun H locs hP hD hS => ?_)
  have hP : va_P D vwCl [(h0, .inr (0, [.ref q0, .ref q1, .ref q2, .null, .int 0, .int 0, .int 0])), (q0, .inr (3, [.ref (u0 1)])), (u0 1, .inl (cI, 6, .inl (fun _ => 0))), (q1, .inr (3, [.ref (u1 1)])), (u1 1, .inl (cI, 9, .inl (fun _ => 0))), (q2, .inr (3, [.ref (u2 1)])), (u2 1, .inl (cI, 9, .inl (fun _ => 0)))] H := hP
  have hD : va_D A [(h0, .inr (0, [.ref q0, .ref q1, .ref q2, .null, .int 0, .int 0, .int 0])), (q0, .inr (3, [.ref (u0 1)])), (u0 1, .inl (cI, 6, .inl (fun _ => 0))), (q1, .inr (3, [.ref (u1 1)])), (u1 1, .inl (cI, 9, .inl (fun _ => 0))), (q2, .inr (3, [.ref (u2 1)])), (u2 1, .inl (cI, 9, .inl (fun _ => 0)))] := hD
  refine lv_aload_n hx hb dX0_init_43 rfl (lv_at hl 0 rfl) ?_
  refine va_new (ci := 3) (fs := [.null]) (C := RX3) (T := TX3) (N := 1) hx hb S.2.2.2.2 iwX3 tyX3 tyX3_ok S.2.2.2.1 (S.2.2.2.2 _ kX0_9c) (S.2.2.2.2 _ inX3) (S.2.2.2.2 _ iniX3) hK hP hD hS hA rfl (fun j hj => by rcases (show j = 0 by omega) with rfl <;> rfl) (Nat.le_of_ble_eq_true rfl) (Nat.le_of_ble_eq_true rfl) dX0_init_44 (fun q3 H hP hD hS => ?_)
  refine lv_dup hx hb dX0_init_47 rfl ?_
  refine lv_sipush (v := 169) hx hb dX0_init_48 (by decide) ?_
  refine r_ictor (ws := [(h0, .inr (0, [.ref q0, .ref q1, .ref q2, .null, .int 0, .int 0, .int 0])), (q0, .inr (3, [.ref (u0 1)])), (u0 1, .inl (cI, 6, .inl (fun _ => 0))), (q1, .inr (3, [.ref (u1 1)])), (u1 1, .inl (cI, 9, .inl (fun _ => 0))), (q2, .inr (3, [.ref (u2 1)])), (u2 1, .inl (cI, 9, .inl (fun _ => 0)))]) (q := q3) (e0 := .inr (3, [.null])) hP hD hS hA (r_runI (As := [.int 169]) (rest := [.ref q3, .ref h0]) S hK hP (iX3 l D cI cR q3 169 (by decide) rfl) icX3 iiX3 iniX3 kX0_11 (by decide +kernel) rfl ⟨rfl, rfl⟩ ⟨Nat.le_of_ble_eq_true rfl, Nat.le_of_ble_eq_true rfl⟩ (fun _ _ _ _ _ => trivial) (fun _ _ _ => trivial) hl.1 rfl (Nat.le_of_ble_eq_true rfl) ⟨Nat.le_of_ble_eq_true rfl, Nat.le_of_ble_eq_true rfl⟩ dX0_init_51) (fun u3 H locs hP hD hS => ?_)
  have hP : va_P D vwCl [(h0, .inr (0, [.ref q0, .ref q1, .ref q2, .null, .int 0, .int 0, .int 0])), (q0, .inr (3, [.ref (u0 1)])), (u0 1, .inl (cI, 6, .inl (fun _ => 0))), (q1, .inr (3, [.ref (u1 1)])), (u1 1, .inl (cI, 9, .inl (fun _ => 0))), (q2, .inr (3, [.ref (u2 1)])), (u2 1, .inl (cI, 9, .inl (fun _ => 0))), (q3, .inr (3, [.ref (u3 1)])), (u3 1, .inl (cI, 169, .inl (fun _ => 0)))] H := hP
  have hD : va_D A [(h0, .inr (0, [.ref q0, .ref q1, .ref q2, .null, .int 0, .int 0, .int 0])), (q0, .inr (3, [.ref (u0 1)])), (u0 1, .inl (cI, 6, .inl (fun _ => 0))), (q1, .inr (3, [.ref (u1 1)])), (u1 1, .inl (cI, 9, .inl (fun _ => 0))), (q2, .inr (3, [.ref (u2 1)])), (u2 1, .inl (cI, 9, .inl (fun _ => 0))), (q3, .inr (3, [.ref (u3 1)])), (u3 1, .inl (cI, 169, .inl (fun _ => 0)))] := hD
  refine va_putF (D := D) (ci := 0) (v := .ref q3) (ty := .object RX3) (C := RX0) (T := TX0) (N := 7) hx hb S.2.2.2.2 iwX0 tyX0 tyX0_ok nmX0 S.2.2.2.1 hK hP hD hS 0 rfl rfl 3 (by decide) (S.2.2.2.2 _ kX0_26) (fun _ h9 => h9) rfl hr.2.2 rfl (by decide +kernel) rfl rfl (Nat.le_of_ble_eq_true rfl) dX0_init_54 (fun H locs hP hD hS => ?_)
  have hP : va_P D vwCl [(h0, .inr (0, [.ref q0, .ref q1, .ref q2, .ref q3, .int 0, .int 0, .int 0])), (q0, .inr (3, [.ref (u0 1)])), (u0 1, .inl (cI, 6, .inl (fun _ => 0))), (q1, .inr (3, [.ref (u1 1)])), (u1 1, .inl (cI, 9, .inl (fun _ => 0))), (q2, .inr (3, [.ref (u2 1)])), (u2 1, .inl (cI, 9, .inl (fun _ => 0))), (q3, .inr (3, [.ref (u3 1)])), (u3 1, .inl (cI, 169, .inl (fun _ => 0)))] H := hP
  have hD : va_D A [(h0, .inr (0, [.ref q0, .ref q1, .ref q2, .ref q3, .int 0, .int 0, .int 0])), (q0, .inr (3, [.ref (u0 1)])), (u0 1, .inl (cI, 6, .inl (fun _ => 0))), (q1, .inr (3, [.ref (u1 1)])), (u1 1, .inl (cI, 9, .inl (fun _ => 0))), (q2, .inr (3, [.ref (u2 1)])), (u2 1, .inl (cI, 9, .inl (fun _ => 0))), (q3, .inr (3, [.ref (u3 1)])), (u3 1, .inl (cI, 169, .inl (fun _ => 0)))] := hD
  refine lv_aload_n hx hb dX0_init_57 rfl (lv_at hl 0 rfl) ?_
  refine lv_bipush (v := 20) hx hb dX0_init_58 (by decide) ?_
  refine va_put (D := D) (ci := 0) (v := .int 20) (ty := .int) (C := RX0) (T := TX0) (N := 7) hx hb S.2.2.2.2 iwX0 tyX0 tyX0_ok nmX0 S.2.2.2.1 hK hP hD hS 0 rfl rfl 6 (by decide) (S.2.2.2.2 _ kX0_29) (fun _ h9 => h9) rfl (by decide +kernel) rfl rfl (Nat.le_of_ble_eq_true rfl) dX0_init_60 (fun H locs hP hD hS => ?_)
  have hP : va_P D vwCl [(h0, .inr (0, [.ref q0, .ref q1, .ref q2, .ref q3, .int 0, .int 0, .int 20])), (q0, .inr (3, [.ref (u0 1)])), (u0 1, .inl (cI, 6, .inl (fun _ => 0))), (q1, .inr (3, [.ref (u1 1)])), (u1 1, .inl (cI, 9, .inl (fun _ => 0))), (q2, .inr (3, [.ref (u2 1)])), (u2 1, .inl (cI, 9, .inl (fun _ => 0))), (q3, .inr (3, [.ref (u3 1)])), (u3 1, .inl (cI, 169, .inl (fun _ => 0)))] H := hP
  have hD : va_D A [(h0, .inr (0, [.ref q0, .ref q1, .ref q2, .ref q3, .int 0, .int 0, .int 20])), (q0, .inr (3, [.ref (u0 1)])), (u0 1, .inl (cI, 6, .inl (fun _ => 0))), (q1, .inr (3, [.ref (u1 1)])), (u1 1, .inl (cI, 9, .inl (fun _ => 0))), (q2, .inr (3, [.ref (u2 1)])), (u2 1, .inl (cI, 9, .inl (fun _ => 0))), (q3, .inr (3, [.ref (u3 1)])), (u3 1, .inl (cI, 169, .inl (fun _ => 0)))] := hD
  refine W.widen (k := 8) (n := 197) (Nat.le_of_ble_eq_true rfl) (Nat.le_of_ble_eq_true rfl) ?_
  exact W.vret (hlocks := hr.2.1) hx hb hr.1 (fun t ht hW => ⟨⟨(fun k => match k with | 1 => q0 | 2 => u0 1 | 3 => q1 | 4 => u1 1 | 5 => q2 | 6 => u2 1 | 7 => q3 | 8 => u3 1 | _ => 0), rfl, trivial, by rw [ht]; exact hP, va_K.moved hW.alike hK, hD⟩, hS.F ht⟩) hS.2.2 dX0_init_63
set_option maxHeartbeats 4000000 in
set_option maxRecDepth 100000 in
theorem iX5 (l : Launch) (D : va_G) (cI cR : ClassId) (h0 : Nat) : Ki l yX5_init cX5_init 1 { frames := 2, cells := 6, slots := 180, locals := 80 } D cI cR [.ref h0] h0 (.inr (5, [.null, .null, .null])) (fun _ => True) (fun u => [(h0, .inr (5, [.ref (u 1), .ref (u 3), .ref (u 5)])), (u 1, .inr (3, [.ref (u 2)])), (u 2, .inl (cI, 169, .inl (fun _ => 0))), (u 3, .inr (3, [.ref (u 4)])), (u 4, .inl (cI, 4, .inl (fun _ => 0))), (u 5, .inr (3, [.ref (u 6)])), (u 6, .inl (cI, 4, .inl (fun _ => 0)))]) 6 180 := by
  refine Ki.ofW (by decide) rfl (Nat.le_of_ble_eq_true rfl) ?_
  intro p e s m args below meth c ls A S hr hK hX hP hD hS hA hl
  have hx := S.1
  have hb := S.2.1
  have hl : lv_has ls 1 [(0, .ref h0)] := hl
  refine lv_aload_n hx hb dX5_init_0 rfl (lv_at hl 0 rfl) ?_
  refine W.objInit hx hb S.2.2.2.1 (S.2.2.2.2 _ kX5_3o) (S.2.2.2.2 _ oi_i) (S.2.2.2.2 _ oi_c) rfl (by rw [S.2.2.1]; exact hl.1) rfl dX5_init_1 (Nat.le_of_ble_eq_true rfl) (Nat.le_of_ble_eq_true rfl) ?_
  refine W.eq (g2 := F0 m 4 ls []) rfl ?_
  refine lv_aload_n hx hb dX5_init_4 rfl (lv_at hl 0 rfl) ?_
  refine va_new (ci := 3) (fs := [.null]) (C := RX3) (T := TX3) (N := 1) hx hb S.2.2.2.2 iwX3 tyX3 tyX3_ok S.2.2.2.1 (S.2.2.2.2 _ kX5_9c) (S.2.2.2.2 _ inX3) (S.2.2.2.2 _ iniX3) hK hP hD hS hA rfl (fun j hj => by rcases (show j = 0 by omega) with rfl <;> rfl) (Nat.le_of_ble_eq_true rfl) (Nat.le_of_ble_eq_true rfl) dX5_init_5 (fun q0 H hP hD hS => ?_)
  refine lv_dup hx hb dX5_init_8 rfl ?_
  refine lv_sipush (v := 169) hx hb dX5_init_9 (by decide) ?_
  refine r_ictor (ws := [(h0, .inr (5, [.null, .null, .null]))]) (q := q0) (e0 := .inr (3, [.null])) hP hD hS hA (r_runI (As := [.int 169]) (rest := [.ref q0, .ref h0]) S hK hP (iX3 l D cI cR q0 169 (by decide) rfl) icX3 iiX3 iniX3 kX5_11 (by decide +kernel) rfl ⟨rfl, rfl⟩ ⟨Nat.le_of_ble_eq_true rfl, Nat.le_of_ble_eq_true rfl⟩ (fun _ _ _ _ _ => trivial) (fun _ _ _ => trivial) hl.1 rfl (Nat.le_of_ble_eq_true rfl) ⟨Nat.le_of_ble_eq_true rfl, Nat.le_of_ble_eq_true rfl⟩ dX5_init_12) (fun u0 H locs hP hD hS => ?_)
  have hP : va_P D vwCl [(h0, .inr (5, [.null, .null, .null])), (q0, .inr (3, [.ref (u0 1)])), (u0 1, .inl (cI, 169, .inl (fun _ => 0)))] H := hP
  have hD : va_D A [(h0, .inr (5, [.null, .null, .null])), (q0, .inr (3, [.ref (u0 1)])), (u0 1, .inl (cI, 169, .inl (fun _ => 0)))] := hD
  refine va_putF (D := D) (ci := 5) (v := .ref q0) (ty := .object RX3) (C := RX5) (T := TX5) (N := 3) hx hb S.2.2.2.2 iwX5 tyX5 tyX5_ok nmX5 S.2.2.2.1 hK hP hD hS 0 rfl rfl 0 (by decide) (S.2.2.2.2 _ kX5_14) (fun _ h9 => h9) rfl hr.2.2 rfl (by decide +kernel) rfl rfl (Nat.le_of_ble_eq_true rfl) dX5_init_15 (fun H locs hP hD hS => ?_)
  have hP : va_P D vwCl [(h0, .inr (5, [.ref q0, .null, .null])), (q0, .inr (3, [.ref (u0 1)])), (u0 1, .inl (cI, 169, .inl (fun _ => 0)))] H := hP
  have hD : va_D A [(h0, .inr (5, [.ref q0, .null, .null])), (q0, .inr (3, [.ref (u0 1)])), (u0 1, .inl (cI, 169, .inl (fun _ => 0)))] := hD
  refine lv_aload_n hx hb dX5_init_18 rfl (lv_at hl 0 rfl) ?_
  refine va_new (ci := 3) (fs := [.null]) (C := RX3) (T := TX3) (N := 1) hx hb S.2.2.2.2 iwX3 tyX3 tyX3_ok S.2.2.2.1 (S.2.2.2.2 _ kX5_9c) (S.2.2.2.2 _ inX3) (S.2.2.2.2 _ iniX3) hK hP hD hS hA rfl (fun j hj => by rcases (show j = 0 by omega) with rfl <;> rfl) (Nat.le_of_ble_eq_true rfl) (Nat.le_of_ble_eq_true rfl) dX5_init_19 (fun q1 H hP hD hS => ?_)
  refine lv_dup hx hb dX5_init_22 rfl ?_
  refine lv_iconst (v := 4) hx hb dX5_init_23 (by decide) ?_
  refine r_ictor (ws := [(h0, .inr (5, [.ref q0, .null, .null])), (q0, .inr (3, [.ref (u0 1)])), (u0 1, .inl (cI, 169, .inl (fun _ => 0)))]) (q := q1) (e0 := .inr (3, [.null])) hP hD hS hA (r_runI (As := [.int 4]) (rest := [.ref q1, .ref h0]) S hK hP (iX3 l D cI cR q1 4 (by decide) rfl) icX3 iiX3 iniX3 kX5_11 (by decide +kernel) rfl ⟨rfl, rfl⟩ ⟨Nat.le_of_ble_eq_true rfl, Nat.le_of_ble_eq_true rfl⟩ (fun _ _ _ _ _ => trivial) (fun _ _ _ => trivial) hl.1 rfl (Nat.le_of_ble_eq_true rfl) ⟨Nat.le_of_ble_eq_true rfl, Nat.le_of_ble_eq_true rfl⟩ dX5_init_24) (fun u1 H locs hP hD hS => ?_)
  have hP : va_P D vwCl [(h0, .inr (5, [.ref q0, .null, .null])), (q0, .inr (3, [.ref (u0 1)])), (u0 1, .inl (cI, 169, .inl (fun _ => 0))), (q1, .inr (3, [.ref (u1 1)])), (u1 1, .inl (cI, 4, .inl (fun _ => 0)))] H := hP
  have hD : va_D A [(h0, .inr (5, [.ref q0, .null, .null])), (q0, .inr (3, [.ref (u0 1)])), (u0 1, .inl (cI, 169, .inl (fun _ => 0))), (q1, .inr (3, [.ref (u1 1)])), (u1 1, .inl (cI, 4, .inl (fun _ => 0)))] := hD
  refine va_putF (D := D) (ci := 5) (v := .ref q1) (ty := .object RX3) (C := RX5) (T := TX5) (N := 3) hx hb S.2.2.2.2 iwX5 tyX5 tyX5_ok nmX5 S.2.2.2.1 hK hP hD hS 0 rfl rfl 1 (by decide) (S.2.2.2.2 _ kX5_20) (fun _ h9 => h9) rfl hr.2.2 rfl (by decide +kernel) rfl rfl (Nat.le_of_ble_eq_true rfl) dX5_init_27 (fun H locs hP hD hS => ?_)
  have hP : va_P D vwCl [(h0, .inr (5, [.ref q0, .ref q1, .null])), (q0, .inr (3, [.ref (u0 1)])), (u0 1, .inl (cI, 169, .inl (fun _ => 0))), (q1, .inr (3, [.ref (u1 1)])), (u1 1, .inl (cI, 4, .inl (fun _ => 0)))] H := hP
  have hD : va_D A [(h0, .inr (5, [.ref q0, .ref q1, .null])), (q0, .inr (3, [.ref (u0 1)])), (u0 1, .inl (cI, 169, .inl (fun _ => 0))), (q1, .inr (3, [.ref (u1 1)])), (u1 1, .inl (cI, 4, .inl (fun _ => 0)))] := hD
  refine lv_aload_n hx hb dX5_init_30 rfl (lv_at hl 0 rfl) ?_
  refine va_new (ci := 3) (fs := [.null]) (C := RX3) (T := TX3) (N := 1) hx hb S.2.2.2.2 iwX3 tyX3 tyX3_ok S.2.2.2.1 (S.2.2.2.2 _ kX5_9c) (S.2.2.2.2 _ inX3) (S.2.2.2.2 _ iniX3) hK hP hD hS hA rfl (fun j hj => by rcases (show j = 0 by omega) with rfl <;> rfl) (Nat.le_of_ble_eq_true rfl) (Nat.le_of_ble_eq_true rfl) dX5_init_31 (fun q2 H hP hD hS => ?_)
  refine lv_dup hx hb dX5_init_34 rfl ?_
  refine lv_iconst (v := 4) hx hb dX5_init_35 (by decide) ?_
  refine r_ictor (ws := [(h0, .inr (5, [.ref q0, .ref q1, .null])), (q0, .inr (3, [.ref (u0 1)])), (u0 1, .inl (cI, 169, .inl (fun _ => 0))), (q1, .inr (3, [.ref (u1 1)])), (u1 1, .inl (cI, 4, .inl (fun _ => 0)))]) (q := q2) (e0 := .inr (3, [.null])) hP hD hS hA (r_runI (As := [.int 4]) (rest := [.ref q2, .ref h0]) S hK hP (iX3 l D cI cR q2 4 (by decide) rfl) icX3 iiX3 iniX3 kX5_11 (by decide +kernel) rfl ⟨rfl, rfl⟩ ⟨Nat.le_of_ble_eq_true rfl, Nat.le_of_ble_eq_true rfl⟩ (fun _ _ _ _ _ => trivial) (fun _ _ _ => trivial) hl.1 rfl (Nat.le_of_ble_eq_true rfl) ⟨Nat.le_of_ble_eq_true rfl, Nat.le_of_ble_eq_true rfl⟩ dX5_init_36) (fun u2 H locs hP hD hS => ?_)
  have hP : va_P D vwCl [(h0, .inr (5, [.ref q0, .ref q1, .null])), (q0, .inr (3, [.ref (u0 1)])), (u0 1, .inl (cI, 169, .inl (fun _ => 0))), (q1, .inr (3, [.ref (u1 1)])), (u1 1, .inl (cI, 4, .inl (fun _ => 0))), (q2, .inr (3, [.ref (u2 1)])), (u2 1, .inl (cI, 4, .inl (fun _ => 0)))] H := hP
  have hD : va_D A [(h0, .inr (5, [.ref q0, .ref q1, .null])), (q0, .inr (3, [.ref (u0 1)])), (u0 1, .inl (cI, 169, .inl (fun _ => 0))), (q1, .inr (3, [.ref (u1 1)])), (u1 1, .inl (cI, 4, .inl (fun _ => 0))), (q2, .inr (3, [.ref (u2 1)])), (u2 1, .inl (cI, 4, .inl (fun _ => 0)))] := hD
  refine va_putF (D := D) (ci := 5) (v := .ref q2) (ty := .object RX3) (C := RX5) (T := TX5) (N := 3) hx hb S.2.2.2.2 iwX5 tyX5 tyX5_ok nmX5 S.2.2.2.1 hK hP hD hS 0 rfl rfl 2 (by decide) (S.2.2.2.2 _ kX5_23) (fun _ h9 => h9) rfl hr.2.2 rfl (by decide +kernel) rfl rfl (Nat.le_of_ble_eq_true rfl) dX5_init_39 (fun H locs hP hD hS => ?_)
  have hP : va_P D vwCl [(h0, .inr (5, [.ref q0, .ref q1, .ref q2])), (q0, .inr (3, [.ref (u0 1)])), (u0 1, .inl (cI, 169, .inl (fun _ => 0))), (q1, .inr (3, [.ref (u1 1)])), (u1 1, .inl (cI, 4, .inl (fun _ => 0))), (q2, .inr (3, [.ref (u2 1)])), (u2 1, .inl (cI, 4, .inl (fun _ => 0)))] H := hP
  have hD : va_D A [(h0, .inr (5, [.ref q0, .ref q1, .ref q2])), (q0, .inr (3, [.ref (u0 1)])), (u0 1, .inl (cI, 169, .inl (fun _ => 0))), (q1, .inr (3, [.ref (u1 1)])), (u1 1, .inl (cI, 4, .inl (fun _ => 0))), (q2, .inr (3, [.ref (u2 1)])), (u2 1, .inl (cI, 4, .inl (fun _ => 0)))] := hD
  refine W.widen (k := 6) (n := 180) (Nat.le_of_ble_eq_true rfl) (Nat.le_of_ble_eq_true rfl) ?_
  exact W.vret (hlocks := hr.2.1) hx hb hr.1 (fun t ht hW => ⟨⟨(fun k => match k with | 1 => q0 | 2 => u0 1 | 3 => q1 | 4 => u1 1 | 5 => q2 | 6 => u2 1 | _ => 0), rfl, trivial, by rw [ht]; exact hP, va_K.moved hW.alike hK, hD⟩, hS.F ht⟩) hS.2.2 dX5_init_42
set_option maxHeartbeats 4000000 in
set_option maxRecDepth 100000 in
theorem iX4 (l : Launch) (D : va_G) (cI cR : ClassId) (h0 : Nat) : Ki l yX4_init cX4_init 1 { frames := 2, cells := 4, slots := 14, locals := 80 } D cI cR [.ref h0] h0 (.inr (4, [.null, .null, .int 0, .int 0, .int 0, .int 0, .int 0, .int 0, .int 0, .int 0, .int 0])) (fun _ => True) (fun u => [(h0, .inr (4, [.ref (u 1), .ref (u 3), .int 0, .int 0, .int 0, .int 0, .int 0, .int 0, .int 0, .int 0, .int 0])), (u 1, .inr (3, [.ref (u 2)])), (u 2, .inl (cI, 6, .inl (fun _ => 0))), (u 3, .inr (3, [.ref (u 4)])), (u 4, .inl (cI, 6, .inl (fun _ => 0)))]) 4 14 := by
  refine Ki.ofW (by decide) rfl (Nat.le_of_ble_eq_true rfl) ?_
  intro p e s m args below meth c ls A S hr hK hX hP hD hS hA hl
  have hx := S.1
  have hb := S.2.1
  have hl : lv_has ls 1 [(0, .ref h0)] := hl
  refine lv_aload_n hx hb dX4_init_0 rfl (lv_at hl 0 rfl) ?_
  refine W.objInit hx hb S.2.2.2.1 (S.2.2.2.2 _ kX4_3o) (S.2.2.2.2 _ oi_i) (S.2.2.2.2 _ oi_c) rfl (by rw [S.2.2.1]; exact hl.1) rfl dX4_init_1 (Nat.le_of_ble_eq_true rfl) (Nat.le_of_ble_eq_true rfl) ?_
  refine W.eq (g2 := F0 m 4 ls []) rfl ?_
  refine lv_aload_n hx hb dX4_init_4 rfl (lv_at hl 0 rfl) ?_
  refine va_new (ci := 3) (fs := [.null]) (C := RX3) (T := TX3) (N := 1) hx hb S.2.2.2.2 iwX3 tyX3 tyX3_ok S.2.2.2.1 (S.2.2.2.2 _ kX4_9c) (S.2.2.2.2 _ inX3) (S.2.2.2.2 _ iniX3) hK hP hD hS hA rfl (fun j hj => by rcases (show j = 0 by omega) with rfl <;> rfl) (Nat.le_of_ble_eq_true rfl) (Nat.le_of_ble_eq_true rfl) dX4_init_5 (fun q0 H hP hD hS => ?_)
  refine lv_dup hx hb dX4_init_8 rfl ?_
  refine lv_bipush (v := 6) hx hb dX4_init_9 (by decide) ?_
  refine r_ictor (ws := [(h0, .inr (4, [.null, .null, .int 0, .int 0, .int 0, .int 0, .int 0, .int 0, .int 0, .int 0, .int 0]))]) (q := q0) (e0 := .inr (3, [.null])) hP hD hS hA (r_runI (As := [.int 6]) (rest := [.ref q0, .ref h0]) S hK hP (iX3 l D cI cR q0 6 (by decide) rfl) icX3 iiX3 iniX3 kX4_11 (by decide +kernel) rfl ⟨rfl, rfl⟩ ⟨Nat.le_of_ble_eq_true rfl, Nat.le_of_ble_eq_true rfl⟩ (fun _ _ _ _ _ => trivial) (fun _ _ _ => trivial) hl.1 rfl (Nat.le_of_ble_eq_true rfl) ⟨Nat.le_of_ble_eq_true rfl, Nat.le_of_ble_eq_true rfl⟩ dX4_init_11) (fun u0 H locs hP hD hS => ?_)
  have hP : va_P D vwCl [(h0, .inr (4, [.null, .null, .int 0, .int 0, .int 0, .int 0, .int 0, .int 0, .int 0, .int 0, .int 0])), (q0, .inr (3, [.ref (u0 1)])), (u0 1, .inl (cI, 6, .inl (fun _ => 0)))] H := hP
  have hD : va_D A [(h0, .inr (4, [.null, .null, .int 0, .int 0, .int 0, .int 0, .int 0, .int 0, .int 0, .int 0, .int 0])), (q0, .inr (3, [.ref (u0 1)])), (u0 1, .inl (cI, 6, .inl (fun _ => 0)))] := hD
  refine va_putF (D := D) (ci := 4) (v := .ref q0) (ty := .object RX3) (C := RX4) (T := TX4) (N := 11) hx hb S.2.2.2.2 iwX4 tyX4 tyX4_ok nmX4 S.2.2.2.1 hK hP hD hS 0 rfl rfl 0 (by decide) (S.2.2.2.2 _ kX4_14) (fun _ h9 => h9) rfl hr.2.2 rfl (by decide +kernel) rfl rfl (Nat.le_of_ble_eq_true rfl) dX4_init_14 (fun H locs hP hD hS => ?_)
  have hP : va_P D vwCl [(h0, .inr (4, [.ref q0, .null, .int 0, .int 0, .int 0, .int 0, .int 0, .int 0, .int 0, .int 0, .int 0])), (q0, .inr (3, [.ref (u0 1)])), (u0 1, .inl (cI, 6, .inl (fun _ => 0)))] H := hP
  have hD : va_D A [(h0, .inr (4, [.ref q0, .null, .int 0, .int 0, .int 0, .int 0, .int 0, .int 0, .int 0, .int 0, .int 0])), (q0, .inr (3, [.ref (u0 1)])), (u0 1, .inl (cI, 6, .inl (fun _ => 0)))] := hD
  refine lv_aload_n hx hb dX4_init_17 rfl (lv_at hl 0 rfl) ?_
  refine va_new (ci := 3) (fs := [.null]) (C := RX3) (T := TX3) (N := 1) hx hb S.2.2.2.2 iwX3 tyX3 tyX3_ok S.2.2.2.1 (S.2.2.2.2 _ kX4_9c) (S.2.2.2.2 _ inX3) (S.2.2.2.2 _ iniX3) hK hP hD hS hA rfl (fun j hj => by rcases (show j = 0 by omega) with rfl <;> rfl) (Nat.le_of_ble_eq_true rfl) (Nat.le_of_ble_eq_true rfl) dX4_init_18 (fun q1 H hP hD hS => ?_)
  refine lv_dup hx hb dX4_init_21 rfl ?_
  refine lv_bipush (v := 6) hx hb dX4_init_22 (by decide) ?_
  refine r_ictor (ws := [(h0, .inr (4, [.ref q0, .null, .int 0, .int 0, .int 0, .int 0, .int 0, .int 0, .int 0, .int 0, .int 0])), (q0, .inr (3, [.ref (u0 1)])), (u0 1, .inl (cI, 6, .inl (fun _ => 0)))]) (q := q1) (e0 := .inr (3, [.null])) hP hD hS hA (r_runI (As := [.int 6]) (rest := [.ref q1, .ref h0]) S hK hP (iX3 l D cI cR q1 6 (by decide) rfl) icX3 iiX3 iniX3 kX4_11 (by decide +kernel) rfl ⟨rfl, rfl⟩ ⟨Nat.le_of_ble_eq_true rfl, Nat.le_of_ble_eq_true rfl⟩ (fun _ _ _ _ _ => trivial) (fun _ _ _ => trivial) hl.1 rfl (Nat.le_of_ble_eq_true rfl) ⟨Nat.le_of_ble_eq_true rfl, Nat.le_of_ble_eq_true rfl⟩ dX4_init_24) (fun u1 H locs hP hD hS => ?_)
  have hP : va_P D vwCl [(h0, .inr (4, [.ref q0, .null, .int 0, .int 0, .int 0, .int 0, .int 0, .int 0, .int 0, .int 0, .int 0])), (q0, .inr (3, [.ref (u0 1)])), (u0 1, .inl (cI, 6, .inl (fun _ => 0))), (q1, .inr (3, [.ref (u1 1)])), (u1 1, .inl (cI, 6, .inl (fun _ => 0)))] H := hP
  have hD : va_D A [(h0, .inr (4, [.ref q0, .null, .int 0, .int 0, .int 0, .int 0, .int 0, .int 0, .int 0, .int 0, .int 0])), (q0, .inr (3, [.ref (u0 1)])), (u0 1, .inl (cI, 6, .inl (fun _ => 0))), (q1, .inr (3, [.ref (u1 1)])), (u1 1, .inl (cI, 6, .inl (fun _ => 0)))] := hD
  refine va_putF (D := D) (ci := 4) (v := .ref q1) (ty := .object RX3) (C := RX4) (T := TX4) (N := 11) hx hb S.2.2.2.2 iwX4 tyX4 tyX4_ok nmX4 S.2.2.2.1 hK hP hD hS 0 rfl rfl 1 (by decide) (S.2.2.2.2 _ kX4_20) (fun _ h9 => h9) rfl hr.2.2 rfl (by decide +kernel) rfl rfl (Nat.le_of_ble_eq_true rfl) dX4_init_27 (fun H locs hP hD hS => ?_)
  have hP : va_P D vwCl [(h0, .inr (4, [.ref q0, .ref q1, .int 0, .int 0, .int 0, .int 0, .int 0, .int 0, .int 0, .int 0, .int 0])), (q0, .inr (3, [.ref (u0 1)])), (u0 1, .inl (cI, 6, .inl (fun _ => 0))), (q1, .inr (3, [.ref (u1 1)])), (u1 1, .inl (cI, 6, .inl (fun _ => 0)))] H := hP
  have hD : va_D A [(h0, .inr (4, [.ref q0, .ref q1, .int 0, .int 0, .int 0, .int 0, .int 0, .int 0, .int 0, .int 0, .int 0])), (q0, .inr (3, [.ref (u0 1)])), (u0 1, .inl (cI, 6, .inl (fun _ => 0))), (q1, .inr (3, [.ref (u1 1)])), (u1 1, .inl (cI, 6, .inl (fun _ => 0)))] := hD
  refine W.widen (k := 4) (n := 14) (Nat.le_of_ble_eq_true rfl) (Nat.le_of_ble_eq_true rfl) ?_
  exact W.vret (hlocks := hr.2.1) hx hb hr.1 (fun t ht hW => ⟨⟨(fun k => match k with | 1 => q0 | 2 => u0 1 | 3 => q1 | 4 => u1 1 | _ => 0), rfl, trivial, by rw [ht]; exact hP, va_K.moved hW.alike hK, hD⟩, hS.F ht⟩) hS.2.2 dX4_init_30
set_option maxHeartbeats 4000000 in
set_option maxRecDepth 100000 in
theorem iX7 (l : Launch) (D : va_G) (cI cR : ClassId) (h0 : Nat) : Ki l yX7_init cX7_init 1 { frames := 2, cells := 2, slots := 7, locals := 80 } D cI cR [.ref h0] h0 (.inr (7, [.null, .int 0, .int 0])) (fun _ => True) (fun u => [(h0, .inr (7, [.ref (u 1), .int 0, .int 0])), (u 1, .inr (3, [.ref (u 2)])), (u 2, .inl (cI, 6, .inl (fun _ => 0)))]) 2 7 := by
  refine Ki.ofW (by decide) rfl (Nat.le_of_ble_eq_true rfl) ?_
  intro p e s m args below meth c ls A S hr hK hX hP hD hS hA hl
  have hx := S.1
  have hb := S.2.1
  have hl : lv_has ls 1 [(0, .ref h0)] := hl
  refine lv_aload_n hx hb dX7_init_0 rfl (lv_at hl 0 rfl) ?_
  refine W.objInit hx hb S.2.2.2.1 (S.2.2.2.2 _ kX7_3o) (S.2.2.2.2 _ oi_i) (S.2.2.2.2 _ oi_c) rfl (by rw [S.2.2.1]; exact hl.1) rfl dX7_init_1 (Nat.le_of_ble_eq_true rfl) (Nat.le_of_ble_eq_true rfl) ?_
  refine W.eq (g2 := F0 m 4 ls []) rfl ?_
  refine lv_aload_n hx hb dX7_init_4 rfl (lv_at hl 0 rfl) ?_
  refine va_new (ci := 3) (fs := [.null]) (C := RX3) (T := TX3) (N := 1) hx hb S.2.2.2.2 iwX3 tyX3 tyX3_ok S.2.2.2.1 (S.2.2.2.2 _ kX7_9c) (S.2.2.2.2 _ inX3) (S.2.2.2.2 _ iniX3) hK hP hD hS hA rfl (fun j hj => by rcases (show j = 0 by omega) with rfl <;> rfl) (Nat.le_of_ble_eq_true rfl) (Nat.le_of_ble_eq_true rfl) dX7_init_5 (fun q0 H hP hD hS => ?_)
  refine lv_dup hx hb dX7_init_8 rfl ?_
  refine lv_bipush (v := 6) hx hb dX7_init_9 (by decide) ?_
  refine r_ictor (ws := [(h0, .inr (7, [.null, .int 0, .int 0]))]) (q := q0) (e0 := .inr (3, [.null])) hP hD hS hA (r_runI (As := [.int 6]) (rest := [.ref q0, .ref h0]) S hK hP (iX3 l D cI cR q0 6 (by decide) rfl) icX3 iiX3 iniX3 kX7_11 (by decide +kernel) rfl ⟨rfl, rfl⟩ ⟨Nat.le_of_ble_eq_true rfl, Nat.le_of_ble_eq_true rfl⟩ (fun _ _ _ _ _ => trivial) (fun _ _ _ => trivial) hl.1 rfl (Nat.le_of_ble_eq_true rfl) ⟨Nat.le_of_ble_eq_true rfl, Nat.le_of_ble_eq_true rfl⟩ dX7_init_11) (fun u0 H locs hP hD hS => ?_)
  have hP : va_P D vwCl [(h0, .inr (7, [.null, .int 0, .int 0])), (q0, .inr (3, [.ref (u0 1)])), (u0 1, .inl (cI, 6, .inl (fun _ => 0)))] H := hP
  have hD : va_D A [(h0, .inr (7, [.null, .int 0, .int 0])), (q0, .inr (3, [.ref (u0 1)])), (u0 1, .inl (cI, 6, .inl (fun _ => 0)))] := hD
  refine va_putF (D := D) (ci := 7) (v := .ref q0) (ty := .object RX3) (C := RX7) (T := TX7) (N := 3) hx hb S.2.2.2.2 iwX7 tyX7 tyX7_ok nmX7 S.2.2.2.1 hK hP hD hS 0 rfl rfl 0 (by decide) (S.2.2.2.2 _ kX7_14) (fun _ h9 => h9) rfl hr.2.2 rfl (by decide +kernel) rfl rfl (Nat.le_of_ble_eq_true rfl) dX7_init_14 (fun H locs hP hD hS => ?_)
  have hP : va_P D vwCl [(h0, .inr (7, [.ref q0, .int 0, .int 0])), (q0, .inr (3, [.ref (u0 1)])), (u0 1, .inl (cI, 6, .inl (fun _ => 0)))] H := hP
  have hD : va_D A [(h0, .inr (7, [.ref q0, .int 0, .int 0])), (q0, .inr (3, [.ref (u0 1)])), (u0 1, .inl (cI, 6, .inl (fun _ => 0)))] := hD
  refine W.widen (k := 2) (n := 7) (Nat.le_of_ble_eq_true rfl) (Nat.le_of_ble_eq_true rfl) ?_
  exact W.vret (hlocks := hr.2.1) hx hb hr.1 (fun t ht hW => ⟨⟨(fun k => match k with | 1 => q0 | 2 => u0 1 | _ => 0), rfl, trivial, by rw [ht]; exact hP, va_K.moved hW.alike hK, hD⟩, hS.F ht⟩) hS.2.2 dX7_init_17
