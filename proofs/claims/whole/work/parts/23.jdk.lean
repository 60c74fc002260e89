def RJ0 : String := "java/lang/String"
def RJ1 : String := "java/lang/StringLatin1"
def RJ3 : String := "jdk/internal/util/Preconditions"
abbrev cJ0_length_8abf5 : ByteArray := prog_14_method_54_code
def yJ0_length_8abf5 : MethodName := ⟨RJ0, "length", "()I"⟩
theorem dJ0_length_8abf5_0 : decode cJ0_length_8abf5 0 = .ok (.aload_n 0, 1) := by decide +kernel
theorem dJ0_length_8abf5_1 : decode cJ0_length_8abf5 1 = .ok (.getfield 9, 3) := by decide +kernel
theorem dJ0_length_8abf5_4 : decode cJ0_length_8abf5 4 = .ok (.arraylength, 1) := by decide +kernel
theorem dJ0_length_8abf5_5 : decode cJ0_length_8abf5 5 = .ok (.aload_n 0, 1) := by decide +kernel
theorem dJ0_length_8abf5_6 : decode cJ0_length_8abf5 6 = .ok (.invokevirtual 335, 3) := by decide +kernel
theorem dJ0_length_8abf5_9 : decode cJ0_length_8abf5 9 = .ok (.ishr, 1) := by decide +kernel
theorem dJ0_length_8abf5_10 : decode cJ0_length_8abf5 10 = .ok (.ireturn, 1) := by decide +kernel
theorem mJ0_length_8abf5 : mth yJ0_length_8abf5 cJ0_length_8abf5 1 (some .int) RJ0 0 := ⟨tb1 198 (by decide +kernel) rfl, tb1 199 (by decide +kernel) rfl, tb1 11 (by decide +kernel) rfl, tb1 200 rfl rfl, ⟨rfl, by decide +kernel, by decide +kernel, by decide +kernel⟩⟩
abbrev cJ0_charAt_5068e : ByteArray := prog_14_method_56_code
def yJ0_charAt_5068e : MethodName := ⟨RJ0, "charAt", "(I)C"⟩
theorem dJ0_charAt_5068e_0 : decode cJ0_charAt_5068e 0 = .ok (.aload_n 0, 1) := by decide +kernel
theorem dJ0_charAt_5068e_1 : decode cJ0_charAt_5068e 1 = .ok (.invokevirtual 492, 3) := by decide +kernel
theorem dJ0_charAt_5068e_4 : decode cJ0_charAt_5068e 4 = .ok (.ifCond .eq 12, 3) := by decide +kernel
theorem dJ0_charAt_5068e_7 : decode cJ0_charAt_5068e 7 = .ok (.aload_n 0, 1) := by decide +kernel
theorem dJ0_charAt_5068e_8 : decode cJ0_charAt_5068e 8 = .ok (.getfield 9, 3) := by decide +kernel
theorem dJ0_charAt_5068e_11 : decode cJ0_charAt_5068e 11 = .ok (.iload_n 1, 1) := by decide +kernel
theorem dJ0_charAt_5068e_12 : decode cJ0_charAt_5068e 12 = .ok (.invokestatic 495, 3) := by decide +kernel
theorem dJ0_charAt_5068e_15 : decode cJ0_charAt_5068e 15 = .ok (.ireturn, 1) := by decide +kernel
theorem dJ0_charAt_5068e_16 : decode cJ0_charAt_5068e 16 = .ok (.aload_n 0, 1) := by decide +kernel
theorem dJ0_charAt_5068e_17 : decode cJ0_charAt_5068e 17 = .ok (.getfield 9, 3) := by decide +kernel
theorem dJ0_charAt_5068e_20 : decode cJ0_charAt_5068e 20 = .ok (.iload_n 1, 1) := by decide +kernel
theorem dJ0_charAt_5068e_21 : decode cJ0_charAt_5068e 21 = .ok (.invokestatic 498, 3) := by decide +kernel
theorem dJ0_charAt_5068e_24 : decode cJ0_charAt_5068e 24 = .ok (.ireturn, 1) := by decide +kernel
theorem mJ0_charAt_5068e : mth yJ0_charAt_5068e cJ0_charAt_5068e 2 (some .char) RJ0 1 := ⟨tb1 208 (by decide +kernel) rfl, tb1 209 (by decide +kernel) rfl, tb1 11 (by decide +kernel) rfl, tb1 210 rfl rfl, ⟨rfl, by decide +kernel, by decide +kernel, by decide +kernel⟩⟩
abbrev cJ0_coder_7d493 : ByteArray := prog_14_method_152_code
def yJ0_coder_7d493 : MethodName := ⟨RJ0, "coder", "()B"⟩
theorem dJ0_coder_7d493_0 : decode cJ0_coder_7d493 0 = .ok (.getstatic 38, 3) := by decide +kernel
theorem dJ0_coder_7d493_3 : decode cJ0_coder_7d493 3 = .ok (.ifCond .eq 10, 3) := by decide +kernel
theorem dJ0_coder_7d493_6 : decode cJ0_coder_7d493 6 = .ok (.aload_n 0, 1) := by decide +kernel
theorem dJ0_coder_7d493_7 : decode cJ0_coder_7d493 7 = .ok (.getfield 15, 3) := by decide +kernel
theorem dJ0_coder_7d493_10 : decode cJ0_coder_7d493 10 = .ok (.goto 4, 3) := by decide +kernel
theorem dJ0_coder_7d493_13 : decode cJ0_coder_7d493 13 = .ok (.iconst 1, 1) := by decide +kernel
theorem dJ0_coder_7d493_14 : decode cJ0_coder_7d493 14 = .ok (.ireturn, 1) := by decide +kernel
theorem mJ0_coder_7d493 : mth yJ0_coder_7d493 cJ0_coder_7d493 1 (some .byte) RJ0 0 := ⟨tb1 202 (by decide +kernel) rfl, tb1 203 (by decide +kernel) rfl, tb1 11 (by decide +kernel) rfl, tb1 204 rfl rfl, ⟨rfl, by decide +kernel, by decide +kernel, by decide +kernel⟩⟩
abbrev cJ0_isLatin1_aae02 : ByteArray := prog_14_method_154_code
def yJ0_isLatin1_aae02 : MethodName := ⟨RJ0, "isLatin1", "()Z"⟩
theorem dJ0_isLatin1_aae02_0 : decode cJ0_isLatin1_aae02 0 = .ok (.getstatic 38, 3) := by decide +kernel
theorem dJ0_isLatin1_aae02_3 : decode cJ0_isLatin1_aae02 3 = .ok (.ifCond .eq 14, 3) := by decide +kernel
theorem dJ0_isLatin1_aae02_6 : decode cJ0_isLatin1_aae02 6 = .ok (.aload_n 0, 1) := by decide +kernel
theorem dJ0_isLatin1_aae02_7 : decode cJ0_isLatin1_aae02 7 = .ok (.getfield 15, 3) := by decide +kernel
theorem dJ0_isLatin1_aae02_10 : decode cJ0_isLatin1_aae02 10 = .ok (.ifCond .ne 7, 3) := by decide +kernel
theorem dJ0_isLatin1_aae02_13 : decode cJ0_isLatin1_aae02 13 = .ok (.iconst 1, 1) := by decide +kernel
theorem dJ0_isLatin1_aae02_14 : decode cJ0_isLatin1_aae02 14 = .ok (.goto 4, 3) := by decide +kernel
theorem dJ0_isLatin1_aae02_17 : decode cJ0_isLatin1_aae02 17 = .ok (.iconst 0, 1) := by decide +kernel
theorem dJ0_isLatin1_aae02_18 : decode cJ0_isLatin1_aae02 18 = .ok (.ireturn, 1) := by decide +kernel
theorem mJ0_isLatin1_aae02 : mth yJ0_isLatin1_aae02 cJ0_isLatin1_aae02 1 (some .boolean) RJ0 0 := ⟨tb1 212 (by decide +kernel) rfl, tb1 213 (by decide +kernel) rfl, tb1 11 (by decide +kernel) rfl, tb1 214 rfl rfl, ⟨rfl, by decide +kernel, by decide +kernel, by decide +kernel⟩⟩
abbrev cJ0_checkIndex_df160 : ByteArray := prog_14_method_155_code
def yJ0_checkIndex_df160 : MethodName := ⟨RJ0, "checkIndex", "(II)V"⟩
theorem dJ0_checkIndex_df160_0 : decode cJ0_checkIndex_df160 0 = .ok (.iload_n 0, 1) := by decide +kernel
theorem dJ0_checkIndex_df160_1 : decode cJ0_checkIndex_df160 1 = .ok (.iload_n 1, 1) := by decide +kernel
theorem dJ0_checkIndex_df160_2 : decode cJ0_checkIndex_df160 2 = .ok (.getstatic 1053, 3) := by decide +kernel
theorem dJ0_checkIndex_df160_5 : decode cJ0_checkIndex_df160 5 = .ok (.invokestatic 1059, 3) := by decide +kernel
theorem dJ0_checkIndex_df160_8 : decode cJ0_checkIndex_df160 8 = .ok (.pop, 1) := by decide +kernel
theorem dJ0_checkIndex_df160_9 : decode cJ0_checkIndex_df160 9 = .ok (.return_, 1) := by decide +kernel
theorem mJ0_checkIndex_df160 : sth yJ0_checkIndex_df160 cJ0_checkIndex_df160 2 none RJ0 2 := ⟨tb1 219 (by decide +kernel) rfl, tb1 11 (by decide +kernel) rfl, tb1 220 rfl rfl, ⟨rfl, by decide +kernel, by decide +kernel, by decide +kernel⟩⟩
abbrev cJ1_charAt_3b067 : ByteArray := prog_15_method_2_code
def yJ1_charAt_3b067 : MethodName := ⟨RJ1, "charAt", "([BI)C"⟩
theorem dJ1_charAt_3b067_0 : decode cJ1_charAt_3b067 0 = .ok (.iload_n 1, 1) := by decide +kernel
theorem dJ1_charAt_3b067_1 : decode cJ1_charAt_3b067 1 = .ok (.aload_n 0, 1) := by decide +kernel
theorem dJ1_charAt_3b067_2 : decode cJ1_charAt_3b067 2 = .ok (.arraylength, 1) := by decide +kernel
theorem dJ1_charAt_3b067_3 : decode cJ1_charAt_3b067 3 = .ok (.invokestatic 9, 3) := by decide +kernel
theorem dJ1_charAt_3b067_6 : decode cJ1_charAt_3b067 6 = .ok (.aload_n 0, 1) := by decide +kernel
theorem dJ1_charAt_3b067_7 : decode cJ1_charAt_3b067 7 = .ok (.iload_n 1, 1) := by decide +kernel
theorem dJ1_charAt_3b067_8 : decode cJ1_charAt_3b067 8 = .ok (.baload, 1) := by decide +kernel
theorem dJ1_charAt_3b067_9 : decode cJ1_charAt_3b067 9 = .ok (.sipush 255, 3) := by decide +kernel
theorem dJ1_charAt_3b067_12 : decode cJ1_charAt_3b067 12 = .ok (.iand, 1) := by decide +kernel
theorem dJ1_charAt_3b067_13 : decode cJ1_charAt_3b067 13 = .ok (.i2c, 1) := by decide +kernel
theorem dJ1_charAt_3b067_14 : decode cJ1_charAt_3b067 14 = .ok (.ireturn, 1) := by decide +kernel
theorem mJ1_charAt_3b067 : sth yJ1_charAt_3b067 cJ1_charAt_3b067 2 (some .char) RJ1 2 := ⟨tb1 216 (by decide +kernel) rfl, tb1 12 (by decide +kernel) rfl, tb1 217 rfl rfl, ⟨rfl, by decide +kernel, by decide +kernel, by decide +kernel⟩⟩
abbrev cJ3_checkIndex_8e157 : ByteArray := prog_17_method_11_code
def yJ3_checkIndex_8e157 : MethodName := ⟨RJ3, "checkIndex", "(IILjava/util/function/BiFunction;)I"⟩
theorem dJ3_checkIndex_8e157_0 : decode cJ3_checkIndex_8e157 0 = .ok (.iload_n 0, 1) := by decide +kernel
theorem dJ3_checkIndex_8e157_1 : decode cJ3_checkIndex_8e157 1 = .ok (.ifCond .lt 8, 3) := by decide +kernel
theorem dJ3_checkIndex_8e157_4 : decode cJ3_checkIndex_8e157 4 = .ok (.iload_n 0, 1) := by decide +kernel
theorem dJ3_checkIndex_8e157_5 : decode cJ3_checkIndex_8e157 5 = .ok (.iload_n 1, 1) := by decide +kernel
theorem dJ3_checkIndex_8e157_6 : decode cJ3_checkIndex_8e157 6 = .ok (.if_icmp .lt 10, 3) := by decide +kernel
theorem dJ3_checkIndex_8e157_9 : decode cJ3_checkIndex_8e157 9 = .ok (.aload_n 2, 1) := by decide +kernel
theorem dJ3_checkIndex_8e157_10 : decode cJ3_checkIndex_8e157 10 = .ok (.iload_n 0, 1) := by decide +kernel
theorem dJ3_checkIndex_8e157_11 : decode cJ3_checkIndex_8e157 11 = .ok (.iload_n 1, 1) := by decide +kernel
theorem dJ3_checkIndex_8e157_12 : decode cJ3_checkIndex_8e157 12 = .ok (.invokestatic 95, 3) := by decide +kernel
theorem dJ3_checkIndex_8e157_15 : decode cJ3_checkIndex_8e157 15 = .ok (.athrow, 1) := by decide +kernel
theorem dJ3_checkIndex_8e157_16 : decode cJ3_checkIndex_8e157 16 = .ok (.iload_n 0, 1) := by decide +kernel
theorem dJ3_checkIndex_8e157_17 : decode cJ3_checkIndex_8e157 17 = .ok (.ireturn, 1) := by decide +kernel
theorem mJ3_checkIndex_8e157 : sth yJ3_checkIndex_8e157 cJ3_checkIndex_8e157 3 (some .int) RJ3 3 := ⟨tb1 224 (by decide +kernel) rfl, tb1 13 (by decide +kernel) rfl, tb1 225 rfl rfl, ⟨rfl, by decide +kernel, by decide +kernel, by decide +kernel⟩⟩
theorem kX8_72 : Cond.methodLink RX8 72 yJ0_length_8abf5 ∈ TB := tb1 197 (by decide +kernel) rfl
theorem kX8_78 : Cond.methodLink RX8 78 yJ0_charAt_5068e ∈ TB := tb1 207 (by decide +kernel) rfl
theorem kJ0_335 : Cond.methodLink RJ0 335 yJ0_coder_7d493 ∈ TB := tb1 201 (by decide +kernel) rfl
theorem kJ0_492 : Cond.methodLink RJ0 492 yJ0_isLatin1_aae02 ∈ TB := tb1 211 (by decide +kernel) rfl
theorem kJ0_495 : Cond.methodLink RJ0 495 yJ1_charAt_3b067 ∈ TB := tb1 215 (by decide +kernel) rfl
theorem kJ1_9 : Cond.methodLink RJ1 9 yJ0_checkIndex_df160 ∈ TB := tb1 218 (by decide +kernel) rfl
theorem kJ0_1059 : Cond.methodLink RJ0 1059 yJ3_checkIndex_8e157 ∈ TB := tb1 223 (by decide +kernel) rfl
theorem kJ0_9 : Cond.fieldLink RJ0 9 "java/lang/String" "value" "[B" ∈ TB := tb5 229 (by decide +kernel) rfl
theorem kJ0_15 : Cond.fieldLink RJ0 15 "java/lang/String" "coder" "B" ∈ TB := tb5 230 (by decide +kernel) rfl
theorem kJ0_38 : Cond.fieldLink RJ0 38 "java/lang/String" "COMPACT_STRINGS" "Z" ∈ TB := tb1 205 (by decide +kernel) rfl
theorem kJ0_1053 : Cond.fieldLink RJ0 1053 "jdk/internal/util/Preconditions" "SIOOBE_FORMATTER" "Ljava/util/function/BiFunction;" ∈ TB := tb1 221 (by decide +kernel) rfl
def tJ : List Nat := [116, 50, 48, 59, 118, 51, 59, 118, 51, 59, 118, 50, 59, 118, 51, 59, 117, 48, 44, 48, 44, 50, 59, 117, 49, 44, 50, 44, 49, 59, 117, 51, 44, 49, 44, 52, 59, 98, 48, 44, 49, 44, 53, 59, 98, 49, 44, 50, 44, 51, 59, 98, 48, 44, 51, 44, 55, 59, 98, 50, 44, 51, 44, 57, 59, 99, 49, 44, 50, 44, 49, 44, 54, 59, 99, 51, 44, 48, 44, 50, 44, 52, 59]
def bJ : List (List Int32) := [tJ.map nI]
def JE (A : Nat → Prop) (adK adV : Nat → Nat) (U : State) (H : Heap) : Prop := va_Z "java/lang/String" "COMPACT_STRINGS" "Z" (.int 1) A U H ∧ va_Zq "jdk/internal/util/Preconditions" "SIOOBE_FORMATTER" "Ljava/util/function/BiFunction;" A U H ∧ vk_S 1 [83] bJ adK adV A U H
abbrev jF : Nat → Prop := fun _ => False
theorem JE.moved {A : Nat → Prop} {adK adV : Nat → Nat} {u U : State} {H : Heap} (hvm : u.vm.Alike U.vm) (h : JE A adK adV u H) : JE A adK adV U H := ⟨h.1.moved hvm, h.2.1.moved hvm, h.2.2.moved hvm⟩
theorem JE.kept {A : Nat → Prop} {adK adV : Nat → Nat} {U : State} {H H1 : Heap} (h : JE A adK adV U H) (hq : ∀ a : Nat, a < H.size → ¬ A a → H1[a]? = H[a]?) : JE A adK adV U H1 := ⟨h.1.kept hq, h.2.1.kept hq, h.2.2.kept hq⟩
theorem JE.narrow {A B : Nat → Prop} {adK adV : Nat → Nat} {U : State} {H : Heap} (h : JE A adK adV U H) (hAB : ∀ q, B q → A q) : JE B adK adV U H := ⟨h.1.narrow hAB, h.2.1.narrow hAB, h.2.2.narrow hAB⟩
def jPc (adK adV : Nat → Nat) (av : List Value) : Array Value → State → Prop := va_Pc av (fun U => JE jF adK adV U U.heap)
def Cj (l : Launch) (y : MethodName) (cy : ByteArray) (my : Nat) (ry : Option FieldType) (rm : Room) (adK adV : Nat → Nat) (av : List Value) (r : Int32) : Prop := Met l y (Cond.code y cy my ry :: TB) rm (jPc adK adV av) (vp_Si (fun r' => r' = r)) 0 0 jF
def Cjv (l : Launch) (y : MethodName) (cy : ByteArray) (my : Nat) (ry : Option FieldType) (rm : Room) (adK adV : Nat → Nat) (av : List Value) : Prop := Met l y (Cond.code y cy my ry :: TB) rm (jPc adK adV av) (va_Sv (fun _ => True)) 0 0 jF
theorem jPc.blind {adK adV : Nat → Nat} {av : List Value} : FrameBlind (jPc adK adV av) := fun a U g mk h => ⟨h.1, JE.moved (u := U) (U := U.calling g mk a) (Vm.Alike.refl U.vm) h.2⟩
theorem Cj.ofW {l : Launch} {y : MethodName} {cy : ByteArray} {my : Nat} {ry : Option FieldType} {rm : Room} {adK adV : Nat → Nat} {av : List Value} {r : Int32} (hy : plainName y.cls = true) (hn : (lg_sl av).length ≤ my)
    (body : ∀ (p : Program) (e : Env) (s : State) (m : MethodId) (args : Array Value) (below : List Frame) (meth : Method) (c : Code) (ls : Array Slot), CallFix p m c cy my s args TB y.cls → meth.sig.returnType = ry ∧ meth.locks = false → JE jF adK adV s s.heap → va_S jF s.heap s.heap [] → lv_has ls my (lv_args 0 av) → W p l e rm s m args below meth c s.heap [] 0 0 (MQ below (vp_Si (fun r' => r' = r)) args s 0 0 jF) (F0 m 0 ls [])) : Cj l y cy my ry rm adK adV av r := by
  refine Met.ofW (cc := cy) (maxL := my) (ret := ry) hy rfl ?_
  intro p e s m args below meth c s₁ B hml hv
  obtain ⟨rfl, hJ⟩ := hv
  have hts := atoms_spec (ws := Cond.code y cy my ry :: TB) B.pre
  rw [lg_entry_eq]
  exact body p e s m av.toArray below meth c _ ⟨B.exec, B.bytes, hml, findClass_of_methodNamed B.named, fun w hw => hts w (List.mem_cons_of_mem _ hw)⟩ ⟨B.returns, B.notSynchronized⟩ hJ va_S.rf (lv_entry av hn)
theorem Cjv.ofW {l : Launch} {y : MethodName} {cy : ByteArray} {my : Nat} {ry : Option FieldType} {rm : Room} {adK adV : Nat → Nat} {av : List Value} (hy : plainName y.cls = true) (hn : (lg_sl av).length ≤ my)
    (body : ∀ (p : Program) (e : Env) (s : State) (m : MethodId) (args : Array Value) (below : List Frame) (meth : Method) (c : Code) (ls : Array Slot), CallFix p m c cy my s args TB y.cls → meth.sig.returnType = ry ∧ meth.locks = false → JE jF adK adV s s.heap → va_S jF s.heap s.heap [] → lv_has ls my (lv_args 0 av) → W p l e rm s m args below meth c s.heap [] 0 0 (MQ below (va_Sv (fun _ => True)) args s 0 0 jF) (F0 m 0 ls [])) : Cjv l y cy my ry rm adK adV av := by
  refine Met.ofW (cc := cy) (maxL := my) (ret := ry) hy rfl ?_
  intro p e s m args below meth c s₁ B hml hv
  obtain ⟨rfl, hJ⟩ := hv
  have hts := atoms_spec (ws := Cond.code y cy my ry :: TB) B.pre
  rw [lg_entry_eq]
  exact body p e s m av.toArray below meth c _ ⟨B.exec, B.bytes, hml, findClass_of_methodNamed B.named, fun w hw => hts w (List.mem_cons_of_mem _ hw)⟩ ⟨B.returns, B.notSynchronized⟩ hJ va_S.rf (lv_entry av hn)
section JROWS
variable {p : Program} {l : Launch} {e : Env} {R : Room} {s : State} {m : MethodId} {args : Array Value} {below : List Frame} {meth : Method} {c : Code} {H : Heap} {locs : List Loc} {cells slots : Nat} {Q : State → Prop}
variable {cc : ByteArray} {pc : Nat} {ls : Array Slot} {rest st : List Value} {adK adV : Nat → Nat} {own C : String} {nL idx : Nat} {A : Nat → Prop}
variable {y : MethodName} {cy : ByteArray} {my : Nat} {ry : Option FieldType} {rm : Room} {As : List Value} {r : Int32}
theorem j_vcall (S : CallFix p m c cc nL s args TB own) (hJ : JE A adK adV s s.heap) (hS : va_S A s.heap H locs) (hM : mth y cy my ry RJ0 As.length) (hlk : Cond.methodLink own idx y ∈ TB) (hC : Cj l y cy my ry rm adK adV (.ref (adK 0) :: As) r) (hrm : rm.cells = 0 ∧ rm.slots = 0) (hR : rm.frames + 1 ≤ R.frames ∧ 8 + (my + 11) + rm.locals ≤ R.locals) (hls : ls.size = nL) (hst : As.reverse ++ .ref (adK 0) :: rest = st) (hro : (rest.map fun v => v.category).sum ≤ 8) (hcs : cells ≤ R.cells ∧ slots ≤ R.slots) (hdg : decode cc pc = .ok (.invokevirtual idx, 3))
    (kk : W p l e R s m args below meth c H locs cells slots Q (F0 m (pc + 3) ls (.int r :: rest))) : W p l e R s m args below meth c H locs cells slots Q (F0 m pc ls st) := by
  subst hst
  have hJ2 := (hJ.kept hS.2.1).narrow (B := jF) (fun _ h => h.elim)
  refine vp_callSi (W.runV (As := As) (rest := rest) S hC (cwV As.length S.2.2.2.2 (good_V (X1 := y) hM hlk) rfl hrm.1 hrm.2 hM.2.2.2.2 hR) ⟨jPc.blind, vk_recv hJ.2.2 (by decide) hS, fun U hU hW => ⟨rfl, by show JE jF adK adV U U.heap; rw [hU]; exact hJ2.moved hW.alike⟩⟩ rfl rfl hls rfl (lv_room hro) hdg hcs) (fun r' h => ?_)
  subst h
  exact kk
theorem j_scall (S : CallFix p m c cc nL s args TB own) (hJ : JE A adK adV s s.heap) (hS : va_S A s.heap H locs) (hM : sth y cy my ry C As.length) (hlk : Cond.methodLink own idx y ∈ TB) (hC : Cj l y cy my ry rm adK adV As r) (hrm : rm.cells = 0 ∧ rm.slots = 0) (hR : rm.frames + 1 ≤ R.frames ∧ 8 + (my + 11) + rm.locals ≤ R.locals) (hls : ls.size = nL) (hst : As.reverse ++ rest = st) (hro : (rest.map fun v => v.category).sum ≤ 8) (hcs : cells ≤ R.cells ∧ slots ≤ R.slots) (hdg : decode cc pc = .ok (.invokestatic idx, 3))
    (kk : W p l e R s m args below meth c H locs cells slots Q (F0 m (pc + 3) ls (.int r :: rest))) : W p l e R s m args below meth c H locs cells slots Q (F0 m pc ls st) := by
  subst hst
  have hJ2 := (hJ.kept hS.2.1).narrow (B := jF) (fun _ h => h.elim)
  refine vp_callSi (W.runS (As := As) (rest := rest) S hC ⟨callB_of As.length S.2.2.2.2 (good_S0 hM) rfl hrm.1 hrm.2 (by rw [hM.2.2.2.1]; exact S.2.2.2.2 _ hM.2.1) (S.2.2.2.2 _ hlk) hM.2.2.2.2 hR, S.2.2.2.2 _ hM.1⟩ ⟨jPc.blind, fun U hU hW => ⟨rfl, by show JE jF adK adV U U.heap; rw [hU]; exact hJ2.moved hW.alike⟩⟩ rfl rfl hls rfl (lv_room hro) hdg hcs) (fun r' h => ?_)
  subst h
  exact kk
theorem j_scallv (S : CallFix p m c cc nL s args TB own) (hJ : JE A adK adV s s.heap) (hS : va_S A s.heap H locs) (hM : sth y cy my ry C As.length) (hlk : Cond.methodLink own idx y ∈ TB) (hC : Cjv l y cy my ry rm adK adV As) (hrm : rm.cells = 0 ∧ rm.slots = 0) (hR : rm.frames + 1 ≤ R.frames ∧ 8 + (my + 11) + rm.locals ≤ R.locals) (hls : ls.size = nL) (hst : As.reverse ++ rest = st) (hro : (rest.map fun v => v.category).sum ≤ 8) (hcs : cells ≤ R.cells ∧ slots ≤ R.slots) (hdg : decode cc pc = .ok (.invokestatic idx, 3))
    (kk : W p l e R s m args below meth c H locs cells slots Q (F0 m (pc + 3) ls rest)) : W p l e R s m args below meth c H locs cells slots Q (F0 m pc ls st) := by
  subst hst
  have hJ2 := (hJ.kept hS.2.1).narrow (B := jF) (fun _ h => h.elim)
  exact va_csv (W.runS (As := As) (rest := rest) S hC ⟨callB_of As.length S.2.2.2.2 (good_S0 hM) rfl hrm.1 hrm.2 (by rw [hM.2.2.2.1]; exact S.2.2.2.2 _ hM.2.1) (S.2.2.2.2 _ hlk) hM.2.2.2.2 hR, S.2.2.2.2 _ hM.1⟩ ⟨jPc.blind, fun U hU hW => ⟨rfl, by show JE jF adK adV U U.heap; rw [hU]; exact hJ2.moved hW.alike⟩⟩ rfl rfl hls rfl (lv_room hro) hdg hcs) (fun _ => kk)
end JROWS
set_option maxHeartbeats 4000000 in
set_option maxRecDepth 100000 in
theorem tj_coder (l : Launch) (adK adV : Nat → Nat) : Cj l yJ0_coder_7d493 cJ0_coder_7d493 1 (some .byte) (rmL 0) adK adV [.ref (adK 0)] 0 := by
  refine Cj.ofW (by decide) (Nat.le_of_ble_eq_true rfl) ?_
  intro p e s m args below meth c ls S hr hJ hS hl
  have hx := S.1
  have hb := S.2.1
  have hl : lv_has ls 1 [(0, .ref (adK 0))] := hl
  refine va_gets hx hb hJ.1 hS S.2.2.2.1 (S.2.2.2.2 _ kJ0_38) (fun _ h => h) dJ0_coder_7d493_0 ?_
  refine lv_if_eq (tgt := 13) hx hb dJ0_coder_7d493_3 (by decide) (fun h => absurd h (by decide)) (fun _ => ?_)
  refine lv_aload_n hx hb dJ0_coder_7d493_6 rfl (lv_at hl 0 rfl) ?_
  refine vk_getf hx hb (hJ.2.2.1 0 (by decide)).2.1 hS S.2.2.2.1 (S.2.2.2.2 _ kJ0_15) (fun _ h => h) dJ0_coder_7d493_7 ?_
  refine lv_goto (tgt := 14) hx hb dJ0_coder_7d493_10 (by decide) ?_
  exact W.zret (v := 0) (hlocks := hr.2) hx hb hr.1 rfl (fun t ht hW => ⟨0, rfl, rfl, ht⟩) hS.2.2 dJ0_coder_7d493_14
set_option maxHeartbeats 4000000 in
set_option maxRecDepth 100000 in
theorem tj_isLatin1 (l : Launch) (adK adV : Nat → Nat) : Cj l yJ0_isLatin1_aae02 cJ0_isLatin1_aae02 1 (some .boolean) (rmL 0) adK adV [.ref (adK 0)] 1 := by
  refine Cj.ofW (by decide) (Nat.le_of_ble_eq_true rfl) ?_
  intro p e s m args below meth c ls S hr hJ hS hl
  have hx := S.1
  have hb := S.2.1
  have hl : lv_has ls 1 [(0, .ref (adK 0))] := hl
  refine va_gets hx hb hJ.1 hS S.2.2.2.1 (S.2.2.2.2 _ kJ0_38) (fun _ h => h) dJ0_isLatin1_aae02_0 ?_
  refine lv_if_eq (tgt := 17) hx hb dJ0_isLatin1_aae02_3 (by decide) (fun h => absurd h (by decide)) (fun _ => ?_)
  refine lv_aload_n hx hb dJ0_isLatin1_aae02_6 rfl (lv_at hl 0 rfl) ?_
  refine vk_getf hx hb (hJ.2.2.1 0 (by decide)).2.1 hS S.2.2.2.1 (S.2.2.2.2 _ kJ0_15) (fun _ h => h) dJ0_isLatin1_aae02_7 ?_
  refine lv_if_ne (tgt := 17) hx hb dJ0_isLatin1_aae02_10 (by decide) (fun h => absurd rfl h) (fun _ => ?_)
  refine lv_iconst (v := 1) hx hb dJ0_isLatin1_aae02_13 (by decide) ?_
  refine lv_goto (tgt := 18) hx hb dJ0_isLatin1_aae02_14 (by decide) ?_
  exact W.zret (v := 1) (hlocks := hr.2) hx hb hr.1 rfl (fun t ht hW => ⟨1, rfl, rfl, ht⟩) hS.2.2 dJ0_isLatin1_aae02_18
set_option maxHeartbeats 4000000 in
set_option maxRecDepth 100000 in
theorem tj_length (l : Launch) (adK adV : Nat → Nat) : Cj l yJ0_length_8abf5 cJ0_length_8abf5 1 (some .int) (rmL 1) adK adV [.ref (adK 0)] 83 := by
  refine Cj.ofW (by decide) (Nat.le_of_ble_eq_true rfl) ?_
  intro p e s m args below meth c ls S hr hJ hS hl
  have hx := S.1
  have hb := S.2.1
  have hl : lv_has ls 1 [(0, .ref (adK 0))] := hl
  refine lv_aload_n hx hb dJ0_length_8abf5_0 rfl (lv_at hl 0 rfl) ?_
  refine vk_getf hx hb (hJ.2.2.1 0 (by decide)).2.2.1 hS S.2.2.2.1 (S.2.2.2.2 _ kJ0_9) (fun _ h => h) dJ0_length_8abf5_1 ?_
  refine va_tlen (v := 83) hx hb (hJ.2.2.1 0 (by decide)).2.2.2 hS rfl dJ0_length_8abf5_4 ?_
  refine lv_aload_n hx hb dJ0_length_8abf5_5 rfl (lv_at hl 0 rfl) ?_
  refine j_vcall (As := []) (rest := [.int 83]) S hJ hS mJ0_coder_7d493 kJ0_335 (tj_coder l adK adV) ⟨rfl, rfl⟩ (rm_ok (by decide) (by decide)) hl.1 rfl (Nat.le_of_ble_eq_true rfl) ⟨Nat.zero_le _, Nat.zero_le _⟩ dJ0_length_8abf5_6 ?_
  refine lv_ishr hx hb dJ0_length_8abf5_9 ?_
  exact W.iret (v := (83 : Int32) >>> ((0 : Int32) &&& 31)) (hlocks := hr.2) hx hb hr.1 (fun t ht hW => ⟨_, rfl, by decide, ht⟩) hS.2.2 dJ0_length_8abf5_10
set_option maxHeartbeats 4000000 in
set_option maxRecDepth 100000 in
theorem tj_pre (l : Launch) (adK adV : Nat → Nat) (i n : Int32) (v : Value) (hv : v = .null ∨ ∃ a, v = .ref a) (h0 : ¬ i < 0) (h1 : i < n) : Cj l yJ3_checkIndex_8e157 cJ3_checkIndex_8e157 3 (some .int) (rmL 0) adK adV [.int i, .int n, v] i := by
  have hlv : lv_args 0 [.int i, .int n, v] = [(0, .int i), (1, .int n), (2, v)] := by rcases hv with rfl | ⟨a, rfl⟩ <;> rfl
  refine Cj.ofW (by decide) (by rcases hv with rfl | ⟨a, rfl⟩ <;> exact Nat.le_of_ble_eq_true rfl) ?_
  intro p e s m args below meth c ls S hr hJ hS hl
  have hx := S.1
  have hb := S.2.1
  rw [hlv] at hl
  refine lv_iload_n hx hb dJ3_checkIndex_8e157_0 rfl (lv_at hl 0 rfl) ?_
  refine lv_if_lt (tgt := 9) hx hb dJ3_checkIndex_8e157_1 (by decide) (fun h => absurd h h0) (fun _ => ?_)
  refine lv_iload_n hx hb dJ3_checkIndex_8e157_4 rfl (lv_at hl 0 rfl) ?_
  refine lv_iload_n hx hb dJ3_checkIndex_8e157_5 rfl (lv_at hl 1 rfl) ?_
  refine lv_icmp_lt (tgt := 16) hx hb dJ3_checkIndex_8e157_6 (by decide) (fun _ => ?_) (fun h => absurd h1 h)
  refine lv_iload_n hx hb dJ3_checkIndex_8e157_16 rfl (lv_at hl 0 rfl) ?_
  exact W.iret (v := i) (hlocks := hr.2) hx hb hr.1 (fun t ht hW => ⟨_, rfl, rfl, ht⟩) hS.2.2 dJ3_checkIndex_8e157_17
set_option maxHeartbeats 4000000 in
set_option maxRecDepth 100000 in
theorem tj_ck (l : Launch) (adK adV : Nat → Nat) (i n : Int32) (h0 : ¬ i < 0) (h1 : i < n) : Cjv l yJ0_checkIndex_df160 cJ0_checkIndex_df160 2 none (rmL 1) adK adV [.int i, .int n] := by
  refine Cjv.ofW (by decide) (Nat.le_of_ble_eq_true rfl) ?_
  intro p e s m args below meth c ls S hr hJ hS hl
  have hx := S.1
  have hb := S.2.1
  have hl : lv_has ls 2 [(0, .int i), (1, .int n)] := hl
  refine lv_iload_n hx hb dJ0_checkIndex_df160_0 rfl (lv_at hl 0 rfl) ?_
  refine lv_iload_n hx hb dJ0_checkIndex_df160_1 rfl (lv_at hl 1 rfl) ?_
  obtain ⟨v, hv, hZ⟩ : ∃ v : Value, (v = .null ∨ ∃ a, v = .ref a) ∧ va_Z "jdk/internal/util/Preconditions" "SIOOBE_FORMATTER" "Ljava/util/function/BiFunction;" v jF s s.heap := by
    rcases hJ.2.1 with h | ⟨t, h⟩
    · exact ⟨_, Or.inl rfl, h⟩
    · exact ⟨_, Or.inr ⟨t, rfl⟩, h⟩
  refine va_gets hx hb hZ hS S.2.2.2.1 (S.2.2.2.2 _ kJ0_1053) (fun _ h => h) dJ0_checkIndex_df160_2 ?_
  refine j_scall (As := [.int i, .int n, v]) (rest := []) S hJ hS mJ3_checkIndex_8e157 kJ0_1059 (tj_pre l adK adV i n v hv h0 h1) ⟨rfl, rfl⟩ (rm_ok (by decide) (by decide)) hl.1 rfl (Nat.le_of_ble_eq_true rfl) ⟨Nat.zero_le _, Nat.zero_le _⟩ dJ0_checkIndex_df160_5 ?_
  refine lv_pop hx hb dJ0_checkIndex_df160_8 rfl ?_
  exact W.vret (hlocks := hr.2) hx hb hr.1 (fun t ht hW => ⟨rfl, trivial, ht⟩) hS.2.2 dJ0_checkIndex_df160_9
theorem tJ_ok : ∀ k, k < 83 → (((bJ.getD 0 []).getD k 0 &&& 255).toUInt32 % 65536).toInt32 = nI (tJ.getD k 0) ∧ narrow .char (.int (nI (tJ.getD k 0))) = .int (nI (tJ.getD k 0)) := by
  intro k hk
  have h := List.all_eq_true.mp (show (List.range 83).all (fun k => decide ((((bJ.getD 0 []).getD k 0 &&& 255).toUInt32 % 65536).toInt32 = nI (tJ.getD k 0)) && decide (tJ.getD k 0 < 65536)) = true by decide +kernel) k (List.mem_range.mpr hk)
  simp only [Bool.and_eq_true, decide_eq_true_eq] at h
  exact ⟨h.1, (pk_charN h.2).1⟩
set_option maxHeartbeats 4000000 in
set_option maxRecDepth 100000 in
theorem tj_l1 (l : Launch) (adK adV : Nat → Nat) (i : Nat) (hi : i < 83) : Cj l yJ1_charAt_3b067 cJ1_charAt_3b067 2 (some .char) (rmL 2) adK adV [.ref (adV 0), .int (nI i)] (nI (tJ.getD i 0)) := by
  refine Cj.ofW (by decide) (Nat.le_of_ble_eq_true rfl) ?_
  intro p e s m args below meth c ls S hr hJ hS hl
  have hx := S.1
  have hb := S.2.1
  have hl : lv_has ls 2 [(0, .ref (adV 0)), (1, .int (nI i))] := hl
  have hT := (hJ.2.2.1 0 (by decide)).2.2.2
  refine lv_iload_n hx hb dJ1_charAt_3b067_0 rfl (lv_at hl 1 rfl) ?_
  refine lv_aload_n hx hb dJ1_charAt_3b067_1 rfl (lv_at hl 0 rfl) ?_
  refine va_tlen (v := nI 83) hx hb hT hS rfl dJ1_charAt_3b067_2 ?_
  refine j_scallv (As := [.int (nI i), .int (nI 83)]) (rest := []) S hJ hS mJ0_checkIndex_df160 kJ1_9 (tj_ck l adK adV (nI i) (nI 83) (nI_pos (by omega)) (nI_lt hi (by decide))) ⟨rfl, rfl⟩ (rm_ok (by decide) (by decide)) hl.1 rfl (Nat.le_of_ble_eq_true rfl) ⟨Nat.zero_le _, Nat.zero_le _⟩ dJ1_charAt_3b067_3 ?_
  refine lv_aload_n hx hb dJ1_charAt_3b067_6 rfl (lv_at hl 0 rfl) ?_
  refine lv_iload_n hx hb dJ1_charAt_3b067_7 rfl (lv_at hl 1 rfl) ?_
  refine va_tb (v := .int ((bJ.getD 0 []).getD i 0)) hx hb hT hS (vp_in_nI hi (by decide)) (by rw [nI_clamp (by omega)]) dJ1_charAt_3b067_8 ?_
  refine lv_sipush (v := 255) hx hb dJ1_charAt_3b067_9 (by decide) ?_
  refine lv_iand hx hb dJ1_charAt_3b067_12 ?_
  refine lv_i2c (v := nI (tJ.getD i 0)) hx hb dJ1_charAt_3b067_13 (tJ_ok i hi).1 ?_
  exact W.zret (v := nI (tJ.getD i 0)) (hlocks := hr.2) hx hb hr.1 (tJ_ok i hi).2 (fun t ht hW => ⟨_, rfl, rfl, ht⟩) hS.2.2 dJ1_charAt_3b067_14
set_option maxHeartbeats 4000000 in
set_option maxRecDepth 100000 in
theorem tj_charAt (l : Launch) (adK adV : Nat → Nat) (i : Nat) (hi : i < 83) : Cj l yJ0_charAt_5068e cJ0_charAt_5068e 2 (some .char) (rmL 3) adK adV [.ref (adK 0), .int (nI i)] (nI (tJ.getD i 0)) := by
  refine Cj.ofW (by decide) (Nat.le_of_ble_eq_true rfl) ?_
  intro p e s m args below meth c ls S hr hJ hS hl
  have hx := S.1
  have hb := S.2.1
  have hl : lv_has ls 2 [(0, .ref (adK 0)), (1, .int (nI i))] := hl
  refine lv_aload_n hx hb dJ0_charAt_5068e_0 rfl (lv_at hl 0 rfl) ?_
  refine j_vcall (As := []) (rest := []) S hJ hS mJ0_isLatin1_aae02 kJ0_492 (tj_isLatin1 l adK adV) ⟨rfl, rfl⟩ (rm_ok (by decide) (by decide)) hl.1 rfl (Nat.le_of_ble_eq_true rfl) ⟨Nat.zero_le _, Nat.zero_le _⟩ dJ0_charAt_5068e_1 ?_
  refine lv_if_eq (tgt := 16) hx hb dJ0_charAt_5068e_4 (by decide) (fun h => absurd h (by decide)) (fun _ => ?_)
  refine lv_aload_n hx hb dJ0_charAt_5068e_7 rfl (lv_at hl 0 rfl) ?_
  refine vk_getf hx hb (hJ.2.2.1 0 (by decide)).2.2.1 hS S.2.2.2.1 (S.2.2.2.2 _ kJ0_9) (fun _ h => h) dJ0_charAt_5068e_8 ?_
  refine lv_iload_n hx hb dJ0_charAt_5068e_11 rfl (lv_at hl 1 rfl) ?_
  refine j_scall (As := [.ref (adV 0), .int (nI i)]) (rest := []) S hJ hS mJ1_charAt_3b067 kJ0_495 (tj_l1 l adK adV i hi) ⟨rfl, rfl⟩ (rm_ok (by decide) (by decide)) hl.1 rfl (Nat.le_of_ble_eq_true rfl) ⟨Nat.zero_le _, Nat.zero_le _⟩ dJ0_charAt_5068e_12 ?_
  exact W.zret (v := nI (tJ.getD i 0)) (hlocks := hr.2) hx hb hr.1 (tJ_ok i hi).2 (fun t ht hW => ⟨_, rfl, rfl, ht⟩) hS.2.2 dJ0_charAt_5068e_15
