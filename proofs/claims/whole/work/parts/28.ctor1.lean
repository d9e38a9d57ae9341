theorem wi_65 : Cond.methodLink "ThinExtents" 1 Lib.objectInit ∈ tb := tbm 65 (by decide +kernel) rfl
theorem wi_66 : Cond.instanceMethod Lib.objectInit ∈ tb := tbm 66 (by decide +kernel) rfl
theorem wi_67 : Cond.code Lib.objectInit object_method_1_code 1 (Option.none : Option Jvm.ClassFile.FieldType) ∈ tb := tbm 67 (by decide +kernel) rfl
theorem wi_68 : Cond.classLink "ThinExtents" 7 "ThinExtents$State" ∈ tb := tbm 68 (by decide +kernel) rfl
theorem wi_69 : Cond.instantiable "ThinExtents$State" 4 ∈ tb := tbm 69 (by decide +kernel) rfl
theorem wi_70 : Cond.methodLink "ThinExtents" 9 yX2_init ∈ tb := tbm 70 (by decide +kernel) rfl
theorem wi_71 : Cond.instanceMethod yX2_init ∈ tb := tbm 71 (by decide +kernel) rfl
theorem wi_72 : Cond.code yX2_init prog_4_method_1_code 2 (Option.none : Option Jvm.ClassFile.FieldType) ∈ tb := tbm 72 (by decide +kernel) rfl
theorem wi_73 : Cond.methodLink "ThinExtents$State" 3 Lib.objectInit ∈ tb := tbm 73 (by decide +kernel) rfl
theorem wi_74 : Cond.classLink "ThinExtents$State" 9 "ThinExtents$Volume" ∈ tb := tbm 74 (by decide +kernel) rfl
theorem wi_76 : Cond.instantiable "ThinExtents$Volume" 7 ∈ tb := tbm 76 (by decide +kernel) rfl
theorem wi_77 : Cond.methodLink "ThinExtents$State" 17 yX3_init ∈ tb := tbm 77 (by decide +kernel) rfl
theorem wi_78 : Cond.instanceMethod yX3_init ∈ tb := tbm 78 (by decide +kernel) rfl
theorem wi_79 : Cond.code yX3_init prog_5_method_1_code 1 (Option.none : Option Jvm.ClassFile.FieldType) ∈ tb := tbm 79 (by decide +kernel) rfl
theorem wi_80 : Cond.methodLink "ThinExtents$Volume" 3 Lib.objectInit ∈ tb := tbm 80 (by decide +kernel) rfl
theorem wi_118 : Cond.arrayClass Jvm.ClassFile.FieldType.int ∈ tb := tbm 118 (by decide +kernel) rfl
theorem wi_134 : Cond.classLink "ThinExtents" 22 "ThinExtents$Pool" ∈ tb := tbm 134 (by decide +kernel) rfl
theorem wi_135 : Cond.instantiable "ThinExtents$Pool" 9 ∈ tb := tbm 135 (by decide +kernel) rfl
theorem wi_136 : Cond.methodLink "ThinExtents" 24 yX0_init ∈ tb := tbm 136 (by decide +kernel) rfl
theorem wi_137 : Cond.instanceMethod yX0_init ∈ tb := tbm 137 (by decide +kernel) rfl
theorem wi_138 : Cond.code yX0_init prog_2_method_1_code 4 (Option.none : Option Jvm.ClassFile.FieldType) ∈ tb := tbm 138 (by decide +kernel) rfl
theorem wi_139 : Cond.methodLink "ThinExtents$Pool" 3 Lib.objectInit ∈ tb := tbm 139 (by decide +kernel) rfl
theorem wi_171 : Cond.classLink "ThinExtents" 31 "ThinExtents$Queue" ∈ tb := tbm 171 (by decide +kernel) rfl
theorem wi_172 : Cond.instantiable "ThinExtents$Queue" 4 ∈ tb := tbm 172 (by decide +kernel) rfl
theorem wi_173 : Cond.methodLink "ThinExtents" 33 yX1_init ∈ tb := tbm 173 (by decide +kernel) rfl
theorem wi_174 : Cond.instanceMethod yX1_init ∈ tb := tbm 174 (by decide +kernel) rfl
theorem wi_175 : Cond.code yX1_init prog_3_method_1_code 1 (Option.none : Option Jvm.ClassFile.FieldType) ∈ tb := tbm 175 (by decide +kernel) rfl
theorem wi_176 : Cond.methodLink "ThinExtents$Queue" 3 Lib.objectInit ∈ tb := tbm 176 (by decide +kernel) rfl
theorem wi_46 : Cond.initialized "ThinExtents" ∈ tb := tbm 46 (by decide +kernel) rfl
theorem wi_47 : Cond.initialized "ThinExtents$State" ∈ tb := tbm 47 (by decide +kernel) rfl
theorem wi_48 : Cond.initialized "ThinExtents$Volume" ∈ tb := tbm 48 (by decide +kernel) rfl
theorem wi_50 : Cond.initialized "ThinExtents$Pool" ∈ tb := tbm 50 (by decide +kernel) rfl
theorem wi_51 : Cond.initialized "ThinExtents$Queue" ∈ tb := tbm 51 (by decide +kernel) rfl
theorem wi_60 : Cond.classLink "ThinExtentsLaw" 8 "ThinExtents" ∈ tb := tbm 60 (by decide +kernel) rfl
theorem wi_61 : Cond.instantiable "ThinExtents" 13 ∈ tb := tbm 61 (by decide +kernel) rfl
theorem wi_62 : Cond.methodLink "ThinExtentsLaw" 89 yX4_init ∈ tb := tbm 62 (by decide +kernel) rfl
theorem wi_63 : Cond.instanceMethod yX4_init ∈ tb := tbm 63 (by decide +kernel) rfl
theorem wi_64 : Cond.code yX4_init prog_1_method_1_code 1 (Option.none : Option Jvm.ClassFile.FieldType) ∈ tb := tbm 64 (by decide +kernel) rfl
theorem wi_752 : Cond.classLink "ThinExtentsLaw" 90 "ThinExtentsModel" ∈ tb := tbm 752 (by decide +kernel) rfl
theorem wi_753 : Cond.instantiable "ThinExtentsModel" 27 ∈ tb := tbm 753 (by decide +kernel) rfl
theorem wi_754 : Cond.methodLink "ThinExtentsLaw" 92 yX5_init ∈ tb := tbm 754 (by decide +kernel) rfl
theorem wi_755 : Cond.instanceMethod yX5_init ∈ tb := tbm 755 (by decide +kernel) rfl
theorem wi_756 : Cond.code yX5_init prog_7_method_1_code 1 (Option.none : Option Jvm.ClassFile.FieldType) ∈ tb := tbm 756 (by decide +kernel) rfl
theorem wi_757 : Cond.methodLink "ThinExtentsModel" 1 Lib.objectInit ∈ tb := tbm 757 (by decide +kernel) rfl
theorem wi_52 : Cond.initialized "ThinExtentsModel" ∈ tb := tbm 52 (by decide +kernel) rfl
theorem wi_840 : Cond.arrayClass Jvm.ClassFile.FieldType.boolean ∈ tb := tbm 840 (by decide +kernel) rfl
theorem wi_1046 : Cond.arrayClass Jvm.ClassFile.FieldType.long ∈ tb := tbm 1046 (by decide +kernel) rfl
theorem wi_oc : Cond.code Lib.objectInit ⟨#[0xb1]⟩ 1 none ∈ tb := wi_67
def rmI (f w mc ms : Nat) : Room := { frames := f, cells := mc, slots := ms, locals := w }
def PcI (D : DD) (h0 : Nat) (x : va_E) (U : State) : Prop := U.heap.size = h0 + 1 ∧ va_P D.1 vwCl (wg h0 1 (fun _ => x)) U.heap ∧ va_K D.1 vwCl (tyl D) U ∧ va_AO "ThinExtents$Volume" U
theorem PcI.blind {D : DD} {h0 : Nat} {x : va_E} {av : List Value} : FrameBlind (va_Pc av (PcI D h0 x)) := fun a U g mk q => ⟨q.1, q.2.1, q.2.2.1, va_K.moved (u := U) (U := U.calling g mk a) (Vm.Alike.refl U.vm) q.2.2.2.1, va_AO.moved (u := U) (U := U.calling g mk a) (Vm.Alike.refl U.vm) q.2.2.2.2⟩
def QcI (D : DD) (h0 N : Nat) (E1 : Nat → va_E) : Array Value → State → Outcome → State → Prop := fun _ st oc t => (oc = .returned none ∧ va_P D.1 vwCl (wg h0 N E1) t.heap) ∧ va_F (fun q => h0 ≤ q) st t
/-- a making (or a filling): one cell at h0 comes in, N are there at the end -/
def HI (l : Launch) (D : DD) (h0 : Nat) (y : MethodName) (cc : ByteArray) (maxL f w mc ms : Nat) (av : List Value) (x : va_E) (N : Nat) (E1 : Nat → va_E) : Prop :=
  Met l y (Cond.code y cc maxL none :: tb) (rmI f w mc ms) (va_Pc av (PcI D h0 x)) (QcI D h0 N E1) mc ms (fun q => h0 ≤ q)
theorem HI.of {l : Launch} {D : DD} {h0 : Nat} {y : MethodName} {cc : ByteArray} {maxL f w mc ms N : Nat} {av : List Value} {x : va_E} {E1 : Nat → va_E} (hy : plainName y.cls = true) (hc : ∀ x ∈ av, x.category = 1) (hn : av.length ≤ maxL)
    (body : ∀ (p : Program) (e : Env) (s : State) (m : MethodId) (args : Array Value) (below : List Frame) (meth : Method) (c : Code) (Q : State → Prop), Cx p l s m args meth c D h0 y.cls cc maxL → meth.name = y.name → s.heap.size = h0 + 1 → va_AO "ThinExtents$Volume" s →
      (∀ (pc : Nat) (ls : List (Option Value)), decode cc pc = .ok (.return_, 1) → ZE p l e (rmI f w mc ms) s m args below meth c D h0 N maxL mc ms Q E1 pc ls []) →
      ZE p l e (rmI f w mc ms) s m args below meth c D h0 1 maxL 0 0 Q (fun _ => x) 0 (ent av maxL) []) : HI l D h0 y cc maxL f w mc ms av x N E1 := by
  refine Met.ofW (cc := cc) (maxL := maxL) (ret := none) hy rfl ?_
  intro p e s m args below meth c s₁ B hml hv
  obtain ⟨rfl, hsz, hP, hK, hAO⟩ := hv
  have hts := atoms_spec (ws := Cond.code y cc maxL none :: tb) B.pre
  have hC : Cx p l s m av.toArray meth c D h0 y.cls cc maxL := ⟨B.exec, B.bytes, hml, findClass_of_methodNamed B.named, fun w hw => hts w (List.mem_cons_of_mem _ hw), hK, by omega, B.notSynchronized⟩
  rw [lg_entry_eq]
  refine body p e s m _ below meth c _ hC (name_of_methodNamed B.named B.method).1 hsz hAO ?_ s.heap [] _ hP va_S.rf (ent_lh hc hn)
  intro pc ls hd H locs lsA hP2 hS hl
  exact W.vret hC.1 hC.2.1 B.returns (fun t ht hW => ⟨⟨rfl, by rw [ht]; exact hP2⟩, hS.F ht⟩) hS.2.2 hd hC.2.2.2.2.2.2.2
def appE (K0 : Nat) (EE FF : Nat → va_E) : Nat → va_E := fun j => if j < K0 then EE j else FF (j - K0)
section KCALL
variable {p : Program} {l : Launch} {e : Env} {R : Room} {s : State} {m : MethodId} {args : Array Value} {below : List Frame} {meth : Method} {c : Code} {D : DD} {n0 K0 M nL cells slots : Nat} {Q : State → Prop} {own : String} {cc : ByteArray} {EE FF : Nat → va_E} {pc : Nat} {ls : List (Option Value)} {st : List Value}
theorem k_run {mc ms : Nat} {st0 : List Value} {a : Array Value} {H : Heap} {locs : List Loc} {lsA : Array Slot} (hP : va_P D.1 vwCl (wg n0 (K0 + 1) EE) H) (hS : va_S (fun q => n0 ≤ q) s.heap H locs) (hl : lh lsA nL ls)
    (hr : va_Run p l e R s m args below meth c H locs cells slots mc ms (F0 m pc lsA st0) st (QcI D (n0 + K0) M FF a) (fun q => n0 + K0 ≤ q))
    (kk : ZE p l e R s m args below meth c D n0 (K0 + M) nL (cells + mc) (slots + ms) Q (appE K0 EE FF) (pc + 3) ls st) : W p l e R s m args below meth c H locs cells slots Q (F0 m pc lsA st0) := by
  intro T hT X
  obtain ⟨v, st₀, t, T', L, h0, X', hL, e1, e2, ⟨⟨hv, hp⟩, hz, hk⟩, stp⟩ := hr T hT X
  have hv2 : v = none := by injection hv
  subst hv2
  rw [h0] at hz hk
  have hP1 : va_P D.1 vwCl (wg n0 (K0 + M) (appE K0 EE FF)) T'.heap := by
    rw [e1]
    intro k q hq
    obtain ⟨hkN, rfl⟩ := wg_at hq
    unfold appE
    by_cases hkk : k < K0
    · rw [if_pos hkk]
      have h1 := hP k _ (wg_get (show k < K0 + 1 by omega))
      exact h1.kept (hk (n0 + k) h1.lt (by omega))
    · rw [if_neg hkk]
      have h1 := hp (k - K0) _ (wg_get (show k - K0 < M by omega))
      rw [show n0 + K0 + (k - K0) = n0 + k by omega] at h1
      exact h1
  obtain ⟨t2, a1, b1⟩ := kk T'.heap (locs ++ L) lsA hP1
    ⟨Nat.le_trans hS.1 (by rw [e1]; exact hz), fun q h1 h2 => by rw [e1, hk q (Nat.lt_of_lt_of_le h1 hS.1) (fun z => h2 (by omega))]; exact hS.2.1 q h1 h2, fun q hq => by
      rcases List.mem_append.mp hq with h | h
      · exact hS.2.2 q h
      · have := hL q h; show n0 ≤ q.base; omega⟩ hl T' rfl X'
  exact ⟨t2, stp t2 a1, b1⟩
theorem PcI.mk {U : State} {H : Heap} {x : va_E} (hP : va_P D.1 vwCl (wg n0 (K0 + 1) EE) H) (hx : EE K0 = x) (hz : H.size = n0 + (K0 + 1)) (hK : va_K D.1 vwCl (tyl D) s) (hAO : va_AO "ThinExtents$Volume" s) (hU : U.heap = H) (hW : s.WarmedH U.vm) : PcI D (n0 + K0) x U := by
  refine ⟨by rw [hU, hz]; omega, fun k q hq => ?_, va_K.moved hW.alike hK, va_AO.moved hW.alike hAO⟩
  obtain ⟨hk, rfl⟩ := wg_at hq
  obtain rfl : k = 0 := by omega
  have h1 := hP K0 _ (wg_get (show K0 < K0 + 1 by omega))
  rw [hU, ← hx]
  exact h1
theorem k_init (C : Cx p l s m args meth c D n0 own cc nL) {N0 idx f w mc ms n maxL : Nat} {y : MethodName} {bytes : ByteArray} {As : List Value} {x : va_E} (hAO : va_AO "ThinExtents$Volume" s) (h0 : s.heap.size = n0 + N0) (hcc : N0 + cells = K0 + 1) (hM : HI l D (n0 + K0) y bytes maxL f w mc ms (.ref (n0 + K0) :: As) x M FF) (hx : EE K0 = x)
    (hini : Cond.initialized y.cls ∈ tb) (hlink : Cond.methodLink own idx y ∈ tb) (hin : Cond.instanceMethod y ∈ tb) (hcode : Cond.code y bytes maxL none ∈ tb) (hyn : y.name = "<init>") (hd1 : y.cls ≠ "java/lang/invoke/MethodHandle" ∧ y.cls ≠ "java/lang/invoke/VarHandle" ∧ (parseMethodDescriptor y.desc).map (fun d => d.parameters.length) = some n) (hn : As.length = n)
    (hR : f + 1 ≤ R.frames ∧ 8 + (maxL + 11) + w ≤ R.locals) (hfit : cells + mc ≤ R.cells ∧ slots + ms ≤ R.slots) (hW : (st.map fun v => v.category).sum ≤ 8) (hd : decode cc pc = .ok (.invokespecial idx, 3)) {sk : List Value} (hsk : sk = As.reverse ++ .ref (n0 + K0) :: st)
    (kk : ZE p l e R s m args below meth c D n0 (K0 + M) nL (cells + mc) (slots + ms) Q (appE K0 EE FF) (pc + 3) ls st) : ZE p l e R s m args below meth c D n0 (K0 + 1) nL cells slots Q EE pc ls sk := by
  subst hsk
  intro H locs lsA hP hS hl
  refine k_W (fun T hT X => ?_)
  have hz := k_sz (show 0 < K0 + 1 by omega) h0 hcc hT X hP
  exact k_run hP hS hl (va_runI (As := As) (rest := st) ⟨C.1, C.2.1, C.2.2.1, C.2.2.2.1, C.2.2.2.2.1⟩ hM (cwI n C.2.2.2.2.1 (tb_goodIn fun w hw => by
    rcases List.mem_cons.mp hw with rfl | h
    · exact hcode
    · exact h) rfl rfl rfl (C.2.2.2.2.1 _ hini) (C.2.2.2.2.1 _ hlink) (C.2.2.2.2.1 _ hin) hyn hd1 hR) ⟨PcI.blind, fun U hU hW => ⟨rfl, PcI.mk hP hx hz C.2.2.2.2.2.1 hAO hU hW⟩⟩ rfl hn hl.1 rfl (lv_room hW) hd ⟨hfit.1, hfit.2⟩) kk
theorem k_stat (C : Cx p l s m args meth c D n0 own cc nL) {N0 idx f w mc ms n maxL : Nat} {y : MethodName} {bytes : ByteArray} {As : List Value} {x : va_E} (hAO : va_AO "ThinExtents$Volume" s) (h0 : s.heap.size = n0 + N0) (hcc : N0 + cells = K0 + 1) (ok : okS own idx y bytes maxL none n) (hM : HI l D (n0 + K0) y bytes maxL f w mc ms As x M FF) (hx : EE K0 = x) (hn : As.length = n)
    (hR : f + 1 ≤ R.frames ∧ 8 + (maxL + 11) + w ≤ R.locals) (hfit : cells + mc ≤ R.cells ∧ slots + ms ≤ R.slots) (hW : (st.map fun v => v.category).sum ≤ 8) (hd : decode cc pc = .ok (.invokestatic idx, 3)) {sk : List Value} (hsk : sk = As.reverse ++ st)
    (kk : ZE p l e R s m args below meth c D n0 (K0 + M) nL (cells + mc) (slots + ms) Q (appE K0 EE FF) (pc + 3) ls st) : ZE p l e R s m args below meth c D n0 (K0 + 1) nL cells slots Q EE pc ls sk := by
  subst hsk
  intro H locs lsA hP hS hl
  refine k_W (fun T hT X => ?_)
  have hz := k_sz (show 0 < K0 + 1 by omega) h0 hcc hT X hP
  exact k_run hP hS hl (va_runS (As := As) (rest := st) ⟨C.1, C.2.1, C.2.2.1, C.2.2.2.1, C.2.2.2.2.1⟩ hM (ok.cw C.2.2.2.2.1 rfl rfl hR) ⟨PcI.blind, fun U hU hW => ⟨rfl, PcI.mk hP hx hz C.2.2.2.2.2.1 hAO hU hW⟩⟩ rfl hn hl.1 rfl (lv_room hW) hd ⟨hfit.1, hfit.2⟩) kk
end KCALL
def fF (f : Nat → Int32) (x : Int32) (n : Nat) : Nat → Int32 := fun i => if i < n then x else f i
set_option maxHeartbeats 4000000 in
set_option maxRecDepth 100000 in
theorem i_fill (l : Launch) (D : DD) (h0 n : Nat) (f : Nat → Int32) (x : Int32) (hn : n < 2 ^ 31) : HI l D h0 yJ7_fill_53178 cJ7_fill_53178 4 0 0 0 0 [.ref (h0 + 0), .int x] (.inl (D.2.1, n, .inl f)) 1 (fun _ => .inl (D.2.1, n, .inl (fF f x n))) := by
  refine HI.of (by decide) (by simp [Value.category]) (by simp) ?_
  intro pp ee ss mm aa bb me cd Q C hin hsz hAO hret
  show ZE pp l ee (rmI 0 0 0 0) ss mm aa bb me cd D h0 1 4 0 0 Q (fun _ => .inl (D.2.1, n, .inl f)) 0 [some (.ref (h0 + 0)), some (.int x), none, none] []
  refine k_iconst (v := 0) C (by decide +kernel) dJ7_fill_53178_0 ?_
  refine k_istore_n (ls' := [some (.ref (h0 + 0)), some (.int x), some (.int 0), none]) C (by decide) rfl dJ7_fill_53178_1 ?_
  refine k_aload_n C rfl dJ7_fill_53178_2 ?_
  refine k_alen C (k := 0) rfl (by decide) dJ7_fill_53178_3 ?_
  refine k_istore_n (ls' := [some (.ref (h0 + 0)), some (.int x), some (.int 0), some (.int (nI n))]) C (by decide) rfl dJ7_fill_53178_4 ?_
  refine k_cast (FF := fun _ => .inl (D.2.1, n, .inl (fF f x 0))) (ls' := [some (.ref (h0 + 0)), some (.int x), some (.int (nI 0)), some (.int (nI n))]) (st' := []) (z_for (P := fun i => ZE pp l ee (rmI 0 0 0 0) ss mm aa bb me cd D h0 1 4 0 0 Q (fun _ => .inl (D.2.1, n, .inl (fF f x i))) 5 [some (.ref (h0 + 0)), some (.int x), some (.int (nI i)), some (.int (nI n))] []) n ?_ ?_ 0 (Nat.zero_le _)) (fun j _ => by rw [show fF f x 0 = f from funext fun i => if_neg (by omega)]) ⟨rfl, rfl, rfl, rfl, trivial⟩ rfl
  · refine k_iload_n C rfl dJ7_fill_53178_5 ?_
    refine k_iload_n C rfl dJ7_fill_53178_6 ?_
    refine k_icmp_ge (tgt := 20) C dJ7_fill_53178_7 (by decide) (fun h => ?_) (fun h => ?_)
    · exact hret _ _ dJ7_fill_53178_20
    · exact absurd (Int32.le_refl _) h
  · intro i hi ih
    refine k_iload_n C rfl dJ7_fill_53178_5 ?_
    refine k_iload_n C rfl dJ7_fill_53178_6 ?_
    refine k_icmp_ge (tgt := 20) C dJ7_fill_53178_7 (by decide) (fun h => ?_) (fun h => ?_)
    · exact absurd (cv_le hn (by omega) h) (by omega)
    · refine k_aload_n C rfl dJ7_fill_53178_10 ?_
      refine k_iload_n C rfl dJ7_fill_53178_11 ?_
      refine k_iload_n C rfl dJ7_fill_53178_12 ?_
      refine k_iast C i (k := 0) rfl (by decide) rfl hi hn dJ7_fill_53178_13 ?_
      refine k_iinc (v := nI (i + 1)) (ls' := [some (.ref (h0 + 0)), some (.int x), some (.int (nI (i + 1))), some (.int (nI n))]) C rfl (cv_inc i 1) (by decide) rfl dJ7_fill_53178_14 ?_
      refine k_goto (tgt := 5) C dJ7_fill_53178_17 (by decide) ?_
      refine k_cast ih (fun j hj => ?_) ⟨rfl, rfl, rfl, rfl, trivial⟩ rfl
      obtain rfl : j = 0 := by omega
      rw [upE_self]
      congr 4
      funext a
      unfold upd fF
      by_cases ha : a = i
      · subst ha; rw [if_pos rfl, if_pos (by omega)]
      · rw [if_neg ha]
        by_cases h2 : a < i
        · rw [if_pos h2, if_pos (by omega)]
        · rw [if_neg h2, if_neg (by omega)]

theorem wf_X0_9 : Cond.fieldLink "ThinExtents$Pool" 9 "ThinExtents$Pool" "live" "LThinExtents$State;" ∈ tb := tbm 148 (by decide +kernel) rfl
theorem wf_X0_15 : Cond.fieldLink "ThinExtents$Pool" 15 "ThinExtents$Pool" "committed" "LThinExtents$State;" ∈ tb := tbm 149 (by decide +kernel) rfl
theorem wf_X0_18 : Cond.fieldLink "ThinExtents$Pool" 18 "ThinExtents$Pool" "held" "LThinExtents$State;" ∈ tb := tbm 150 (by decide +kernel) rfl
theorem wf_X0_21 : Cond.fieldLink "ThinExtents$Pool" 21 "ThinExtents$Pool" "words" "[I" ∈ tb := tbm 151 (by decide +kernel) rfl
theorem wf_X0_25 : Cond.fieldLink "ThinExtents$Pool" 25 "ThinExtents$Pool" "size" "I" ∈ tb := tbm 140 (by decide +kernel) rfl
theorem wf_X1_9 : Cond.fieldLink "ThinExtents$Queue" 9 "ThinExtents$Queue" "volumes" "[I" ∈ tb := tbm 179 (by decide +kernel) rfl
theorem wf_X1_15 : Cond.fieldLink "ThinExtents$Queue" 15 "ThinExtents$Queue" "words" "[I" ∈ tb := tbm 180 (by decide +kernel) rfl
theorem wf_X1_18 : Cond.fieldLink "ThinExtents$Queue" 18 "ThinExtents$Queue" "values" "[I" ∈ tb := tbm 181 (by decide +kernel) rfl
theorem wf_X2_11 : Cond.fieldLink "ThinExtents$State" 11 "ThinExtents$State" "volumes" "[LThinExtents$Volume;" ∈ tb := tbm 123 (by decide +kernel) rfl
theorem wf_X2_18 : Cond.fieldLink "ThinExtents$State" 18 "ThinExtents$State" "uses" "[I" ∈ tb := tbm 124 (by decide +kernel) rfl
theorem wf_X3_9 : Cond.fieldLink "ThinExtents$Volume" 9 "ThinExtents$Volume" "extents" "[I" ∈ tb := tbm 102 (by decide +kernel) rfl
theorem wf_X3_21 : Cond.fieldLink "ThinExtents$Volume" 21 "ThinExtents$Volume" "limit" "I" ∈ tb := tbm 93 (by decide +kernel) rfl
theorem wf_X3_25 : Cond.fieldLink "ThinExtents$Volume" 25 "ThinExtents$Volume" "origin" "I" ∈ tb := tbm 96 (by decide +kernel) rfl
theorem wf_X4_10 : Cond.fieldLink "ThinExtents" 10 "ThinExtents" "live" "LThinExtents$State;" ∈ tb := tbm 191 (by decide +kernel) rfl
theorem wf_X4_16 : Cond.fieldLink "ThinExtents" 16 "ThinExtents" "committed" "LThinExtents$State;" ∈ tb := tbm 192 (by decide +kernel) rfl
theorem wf_X4_19 : Cond.fieldLink "ThinExtents" 19 "ThinExtents" "held" "LThinExtents$State;" ∈ tb := tbm 193 (by decide +kernel) rfl
theorem wf_X4_27 : Cond.fieldLink "ThinExtents" 27 "ThinExtents" "pool" "LThinExtents$Pool;" ∈ tb := tbm 194 (by decide +kernel) rfl
theorem wf_X4_34 : Cond.fieldLink "ThinExtents" 34 "ThinExtents" "queue" "LThinExtents$Queue;" ∈ tb := tbm 195 (by decide +kernel) rfl
theorem wf_X4_38 : Cond.fieldLink "ThinExtents" 38 "ThinExtents" "backing" "[I" ∈ tb := tbm 196 (by decide +kernel) rfl
theorem wf_X5_7 : Cond.fieldLink "ThinExtentsModel" 7 "ThinExtentsModel" "there" "[Z" ∈ tb := tbm 759 (by decide +kernel) rfl
theorem wf_X5_13 : Cond.fieldLink "ThinExtentsModel" 13 "ThinExtentsModel" "size" "[I" ∈ tb := tbm 760 (by decide +kernel) rfl
theorem wf_X5_17 : Cond.fieldLink "ThinExtentsModel" 17 "ThinExtentsModel" "backed" "[Z" ∈ tb := tbm 761 (by decide +kernel) rfl
theorem wf_X5_20 : Cond.fieldLink "ThinExtentsModel" 20 "ThinExtentsModel" "quota" "[I" ∈ tb := tbm 762 (by decide +kernel) rfl
theorem wf_X5_23 : Cond.fieldLink "ThinExtentsModel" 23 "ThinExtentsModel" "origin" "[I" ∈ tb := tbm 763 (by decide +kernel) rfl
theorem wf_X5_26 : Cond.fieldLink "ThinExtentsModel" 26 "ThinExtentsModel" "map" "[I" ∈ tb := tbm 764 (by decide +kernel) rfl
theorem wf_X5_29 : Cond.fieldLink "ThinExtentsModel" 29 "ThinExtentsModel" "mark" "[I" ∈ tb := tbm 765 (by decide +kernel) rfl
theorem wf_X5_32 : Cond.fieldLink "ThinExtentsModel" 32 "ThinExtentsModel" "extents" "I" ∈ tb := tbm 767 (by decide +kernel) rfl
theorem wf_X5_36 : Cond.fieldLink "ThinExtentsModel" 36 "ThinExtentsModel" "words" "[I" ∈ tb := tbm 768 (by decide +kernel) rfl
theorem wf_X5_39 : Cond.fieldLink "ThinExtentsModel" 39 "ThinExtentsModel" "backing" "[I" ∈ tb := tbm 769 (by decide +kernel) rfl
theorem wf_X5_42 : Cond.fieldLink "ThinExtentsModel" 42 "ThinExtentsModel" "queueVolume" "[I" ∈ tb := tbm 782 (by decide +kernel) rfl
theorem wf_X5_45 : Cond.fieldLink "ThinExtentsModel" 45 "ThinExtentsModel" "queueWord" "[I" ∈ tb := tbm 783 (by decide +kernel) rfl
theorem wf_X5_48 : Cond.fieldLink "ThinExtentsModel" 48 "ThinExtentsModel" "queueValue" "[I" ∈ tb := tbm 784 (by decide +kernel) rfl
def vol0 : va_E := .inr (3, [.int 0, .int 0, .int 0, .int 0, .int 0, .int 0, .null])
def vol (a : Nat) : va_E := .inr (3, [.int 0, .int 0, .int 0, .int (-1), .int (-1), .int 0, .ref a])
def a40 (D : DD) : va_E := .inl (D.2.1, 40, .inl (fF (fun _ => 0) (-1) 40))
def iA (D : DD) (n : Nat) : va_E := .inl (D.2.1, n, .inl (fun _ => 0))
def bA (D : DD) (n : Nat) : va_E := .inl (D.2.2.1, n, .inl (fun _ => 0))
def eV (D : DD) (h0 : Nat) : Nat → va_E := fun j => if j = 0 then vol (h0 + 1) else a40 D
def eP (D : DD) (h0 a b c : Nat) : Nat → va_E := fun j => if j = 0 then .inr (0, [.int 8, .int 0, .int 0, .int 0, .int 0, .ref a, .ref b, .ref c, .ref (h0 + 1)]) else iA D 384
def eQ (D : DD) (h0 : Nat) : Nat → va_E := fun j => if j = 0 then .inr (1, [.int 0, .ref (h0 + 1), .ref (h0 + 2), .ref (h0 + 3)]) else iA D 8
def eM (D : DD) (h0 : Nat) : Nat → va_E := fun j => if j = 0 then .inr (5, [.int 0, .ref (h0 + 1), .ref (h0 + 2), .ref (h0 + 3), .ref (h0 + 4), .ref (h0 + 5), .ref (h0 + 6), .ref (h0 + 7), .int 0, .int 8, .ref (h0 + 8), .ref (h0 + 9), .int 0, .int 0, .int 0, .int 0, .int 0, .int 0, .int 0, .int 0, .int 0, .int 0, .int 0, .int 0, .ref (h0 + 10), .ref (h0 + 11), .ref (h0 + 12)]) else if j = 1 then bA D 48 else if j = 2 then iA D 48 else if j = 3 then bA D 48 else if j = 4 then iA D 48 else if j = 5 then iA D 48 else if j = 6 then iA D 1920 else if j = 7 then iA D 3 else if j = 8 then iA D 384 else if j = 9 then iA D 160 else if j = 10 then iA D 8 else if j = 11 then iA D 8 else iA D 8
set_option maxHeartbeats 4000000 in
set_option maxRecDepth 100000 in
theorem i_X3 (l : Launch) (D : DD) (h0 : Nat) : HI l D h0 yX3_init cX3_init 1 1 23 1 40 [.ref (h0 + 0)] (.inr (3, [.int 0, .int 0, .int 0, .int 0, .int 0, .int 0, .null])) 2 (eV D h0) := by
  refine HI.of (by decide) (by simp [Value.category]) (by simp) ?_
  intro pp ee ss mm aa bb me cd Q C hin hsz hAO hret
  show ZE pp l ee (rmI 1 23 1 40) ss mm aa bb me cd D h0 1 1 0 0 Q (fun _ => .inr (3, [.int 0, .int 0, .int 0, .int 0, .int 0, .int 0, .null])) 0 [some (.ref (h0 + 0))] []
  refine k_aload_n C rfl dX3_init_0 ?_
  refine k_objI C wi_80 wi_66 wi_oc ⟨by decide, by decide⟩ dX3_init_1 ?_
  refine k_aload_n C rfl dX3_init_4 ?_
  refine k_bipush (v := 40) C (by decide +kernel) dX3_init_5 ?_
  refine k_newa C (N0 := 1) (n' := 40) (by decide) hsz (by decide) rfl (by decide) wi_118 (by decide) (by decide) dX3_init_7 ?_
  refine k_putF C (k := 0) (v := .ref (h0 + 1)) (ty := (tyX3 6)) 6 tyX3 rfl (by decide) rfl in_X3 tyX3_ok nmX3 (by decide) wf_X3_9 rfl rfl hin rfl (by decide +kernel) rfl rfl (by simp) dX3_init_9 ?_
  refine k_aload_n C rfl dX3_init_12 ?_
  refine k_getf C (k := 0) (v := .ref (h0 + 1)) 6 rfl (by decide) rfl in_X3 (by decide) wf_X3_9 rfl rfl dX3_init_13 ?_
  refine k_iconst (v := (-1)) C (by decide +kernel) dX3_init_16 ?_
  refine k_stat C (N0 := 1) (K0 := 1) (As := [.ref (h0 + 1 + 0), .int (-1)]) (st := []) hAO hsz (by decide) ok_X3_15 (i_fill l D (h0 + 1) 40 (fun _ => 0) (-1) (by decide)) rfl rfl ⟨by decide, by decide⟩ ⟨by decide, by decide⟩ (by simp [Value.category]) dX3_init_17 rfl ?_
  refine k_aload_n C rfl dX3_init_20 ?_
  refine k_iconst (v := (-1)) C (by decide +kernel) dX3_init_21 ?_
  refine k_put C (k := 0) (v := .int (-1)) (ty := .int) 3 tyX3 rfl (by decide) rfl in_X3 tyX3_ok nmX3 (by decide) wf_X3_21 rfl rfl (by decide +kernel) rfl rfl (by simp) dX3_init_22 ?_
  refine k_aload_n C rfl dX3_init_25 ?_
  refine k_iconst (v := (-1)) C (by decide +kernel) dX3_init_26 ?_
  refine k_put C (k := 0) (v := .int (-1)) (ty := .int) 4 tyX3 rfl (by decide) rfl in_X3 tyX3_ok nmX3 (by decide) wf_X3_25 rfl rfl (by decide +kernel) rfl rfl (by simp) dX3_init_27 ?_
  exact k_cast (hret _ [some (.ref (h0 + 0))] dX3_init_30) (fun j hj => by rcases (show j = 0 ∨ j = 1 by omega) with rfl | rfl <;> rfl) ⟨rfl, trivial⟩ rfl
def fV (h0 i : Nat) : Nat → Option Nat := fun v => if v < i then some (h0 + (2 + 2 * v)) else none
def eS (D : DD) (h0 i : Nat) (u : Value) : Nat → va_E := fun j => if j = 0 then .inr (2, [.int 0, .int 0, .ref (h0 + 1), u]) else if j = 1 then .inl (D.2.2.2.1, 16, .inr (.inr (.inr (.inr (fV h0 i))))) else if j = 34 then iA D 96 else if j % 2 = 0 then vol (h0 + (j + 1)) else a40 D
theorem fV_up {h0 i : Nat} : va_up (fV h0 i) i (some (h0 + (2 + 2 * i))) = fV h0 (i + 1) := by
  funext v
  unfold va_up fV
  by_cases hv : v = i
  · subst hv; rw [if_pos rfl, if_pos (by omega)]
  · rw [if_neg hv]
    by_cases h2 : v < i
    · rw [if_pos h2, if_pos (by omega)]
    · rw [if_neg h2, if_neg (by omega)]
set_option maxHeartbeats 4000000 in
set_option maxRecDepth 100000 in
theorem i_X2 (l : Launch) (D : DD) (h0 : Nat) : HI l D h0 yX2_init cX2_init 2 2 43 34 864 [.ref (h0 + 0)] (.inr (2, [.int 0, .int 0, .null, .null])) 35 (eS D h0 16 (.ref (h0 + 34))) := by
  refine HI.of (by decide) (by simp [Value.category]) (by simp) ?_
  intro pp ee ss mm aa bb me cd Q C hin hsz hAO hret
  show ZE pp l ee (rmI 2 43 34 864) ss mm aa bb me cd D h0 1 2 0 0 Q (fun _ => .inr (2, [.int 0, .int 0, .null, .null])) 0 [some (.ref (h0 + 0)), none] []
  refine k_aload_n C rfl dX2_init_0 ?_
  refine k_objI C wi_73 wi_66 wi_oc ⟨by decide, by decide⟩ dX2_init_1 ?_
  refine k_aload_n C rfl dX2_init_4 ?_
  refine k_bipush (v := 16) C (by decide +kernel) dX2_init_5 ?_
  refine k_newV C (N0 := 1) (by decide) hsz (by decide) wi_74 hAO (by decide) (by decide) dX2_init_7 ?_
  refine k_putF C (k := 0) (v := .ref (h0 + 1)) (ty := (tyX2 2)) 2 tyX2 rfl (by decide) rfl in_X2 tyX2_ok nmX2 (by decide) wf_X2_11 rfl rfl hin rfl (by decide +kernel) rfl rfl (by simp) dX2_init_10 ?_
  refine k_iconst (v := 0) C (by decide +kernel) dX2_init_13 ?_
  refine k_istore_n (ls' := [some (.ref (h0 + 0)), some (.int 0)]) C (by decide) rfl dX2_init_14 ?_
  have hl : ∀ i, i ≤ 16 → ZE pp l ee (rmI 2 43 34 864) ss mm aa bb me cd D h0 (2 + 2 * i) 2 (1 + 2 * i) (16 + 47 * i) Q (eS D h0 i .null) 15 [some (.ref (h0 + 0)), some (.int (nI i))] [] := by
    refine z_for (P := fun i => ZE pp l ee (rmI 2 43 34 864) ss mm aa bb me cd D h0 (2 + 2 * i) 2 (1 + 2 * i) (16 + 47 * i) Q (eS D h0 i .null) 15 [some (.ref (h0 + 0)), some (.int (nI i))] []) 16 ?_ ?_
    · refine k_iload_n C rfl dX2_init_15 ?_
      refine k_bipush (v := 16) C (by decide +kernel) dX2_init_16 ?_
      refine k_icmp_ge (tgt := 40) C dX2_init_18 (by decide) (fun h => ?_) (fun h => absurd (Int32.le_refl (16 : Int32)) h)
      refine k_aload_n C rfl dX2_init_40 ?_
      refine k_bipush (v := 96) C (by decide +kernel) dX2_init_41 ?_
      refine k_newa C (N0 := 1) (n' := 96) (by decide) hsz (by decide) rfl (by decide) wi_118 (by decide) (by decide) dX2_init_43 ?_
      refine k_putF C (k := 0) (v := .ref (h0 + 34)) (ty := (tyX2 3)) 3 tyX2 rfl (by decide) rfl in_X2 tyX2_ok nmX2 (by decide) wf_X2_18 rfl rfl hin rfl (by decide +kernel) rfl rfl (by simp) dX2_init_45 ?_
      refine k_cast (hret _ [some (.ref (h0 + 0)), none] dX2_init_48) (fun j hj => ?_) ⟨rfl, trivial⟩ rfl
      by_cases h0j : j = 0
      · subst h0j; rfl
      · rw [upE_ne h0j]
        by_cases h34 : j = 34
        · subst h34; rfl
        · rw [upE_ne (by omega)]
          unfold eS
          rw [if_neg h0j, if_neg h0j]
    · intro i hi ih
      refine k_iload_n C rfl dX2_init_15 ?_
      refine k_bipush (v := 16) C (by decide +kernel) dX2_init_16 ?_
      refine k_icmp_ge (tgt := 40) C dX2_init_18 (by decide) (fun h => absurd (cv_le (a := 16) (b := i) (by decide) (by omega) h) (by omega)) (fun h => ?_)
      refine k_aload_n C rfl dX2_init_21 ?_
      refine k_getf C (k := 0) (v := .ref (h0 + 1)) (fs := [.int 0, .int 0, .ref (h0 + 1), .null]) 2 rfl (by omega) rfl in_X2 (by decide) wf_X2_11 rfl rfl dX2_init_22 ?_
      refine k_iload_n C rfl dX2_init_25 ?_
      refine k_new C (N0 := 1) (ci := 3) (fs := [.int 0, .int 0, .int 0, .int 0, .int 0, .int 0, .null]) (NF := 7) tyX3 (Or.inl (by omega)) hsz (by omega) in_X3 tyX3_ok wi_74 wi_76 wi_48 rfl (fun j hj => by rcases (show j = 0 ∨ j = 1 ∨ j = 2 ∨ j = 3 ∨ j = 4 ∨ j = 5 ∨ j = 6 by omega) with rfl | rfl | rfl | rfl | rfl | rfl | rfl <;> rfl) (by show 1 + 2 * i + 1 ≤ 34; omega) (by show 16 + 47 * i + 7 ≤ 864; omega) dX2_init_26 ?_
      refine k_dup C rfl dX2_init_29 ?_
      refine k_init C (N0 := 1) (K0 := 2 + 2 * i) (As := []) (st := [.ref (h0 + (2 + 2 * i)), .int (nI i), .ref (h0 + 1)]) hAO hsz (by omega) (i_X3 l D (h0 + (2 + 2 * i))) upE_self wi_48 wi_77 wi_78 wi_79 rfl (by decide +kernel) rfl ⟨by decide, by decide⟩ ⟨by show 1 + 2 * i + 1 + 1 ≤ 34; omega, by show 16 + 47 * i + 7 + 40 ≤ 864; omega⟩ (by simp [Value.category]) dX2_init_30 rfl ?_
      have hE1 : appE (2 + 2 * i) (upE (eS D h0 i .null) (2 + 2 * i) (.inr (3, [.int 0, .int 0, .int 0, .int 0, .int 0, .int 0, .null]))) (eV D (h0 + (2 + 2 * i))) 1 = .inl (D.2.2.2.1, 16, .inr (.inr (.inr (.inr (fV h0 i))))) := by
        unfold appE
        rw [if_pos (by omega), upE_ne (by omega)]
        rfl
      have hE2 : appE (2 + 2 * i) (upE (eS D h0 i .null) (2 + 2 * i) (.inr (3, [.int 0, .int 0, .int 0, .int 0, .int 0, .int 0, .null]))) (eV D (h0 + (2 + 2 * i))) (2 + 2 * i) = vol (h0 + (2 + 2 * i) + 1) := by
        unfold appE
        rw [if_neg (by omega), Nat.sub_self]
        rfl
      refine k_aast C (k := 1) (v := 2 + 2 * i) i hE1 hE2 (by omega) (by omega) rfl hi (by decide) dX2_init_33 ?_
      refine k_iinc (v := nI (i + 1)) (ls' := [some (.ref (h0 + 0)), some (.int (nI (i + 1)))]) C rfl (cv_inc i 1) (by decide) rfl dX2_init_34 ?_
      refine k_goto (tgt := 15) C dX2_init_37 (by decide) ?_
      have ih' := ih
      rw [show 2 + 2 * (i + 1) = 2 + 2 * i + 2 by omega, show 1 + 2 * (i + 1) = 1 + 2 * i + 1 + 1 by omega, show 16 + 47 * (i + 1) = 16 + 47 * i + 7 + 40 by omega] at ih'
      refine k_cast ih' (fun j hj => ?_) ⟨rfl, rfl, trivial⟩ rfl
      by_cases h1 : j = 1
      · subst h1
        rw [upE_self]
        show (Sum.inl (D.2.2.2.1, 16, Sum.inr (Sum.inr (Sum.inr (Sum.inr (va_up (fV h0 i) i (some (h0 + (2 + 2 * i)))))))) : va_E) = Sum.inl (D.2.2.2.1, 16, Sum.inr (Sum.inr (Sum.inr (Sum.inr (fV h0 (i + 1))))))
        rw [fV_up]
      · rw [upE_ne h1]
        unfold appE
        by_cases hjk : j < 2 + 2 * i
        · rw [if_pos hjk, upE_ne (by omega)]
          unfold eS
          by_cases h0j : j = 0
          · rw [if_pos h0j, if_pos h0j]
          · rw [if_neg h0j, if_neg h0j, if_neg h1, if_neg h1]
        · rw [if_neg hjk]
          unfold eV eS
          rw [if_neg (show ¬ j = 0 by omega), if_neg h1, if_neg (show ¬ j = 34 by omega)]
          by_cases hje : j = 2 + 2 * i
          · subst hje
            rw [if_pos (by omega), if_pos (by omega)]
            congr 1
          · rw [if_neg (by omega), if_neg (by omega)]
  refine k_cast (hl 0 (by decide)) (fun j hj => ?_) ⟨rfl, rfl, trivial⟩ rfl
  rcases (show j = 0 ∨ j = 1 by omega) with rfl | rfl
  · rfl
  · show (Sum.inl (D.2.2.2.1, 16, Sum.inr (Sum.inr (Sum.inr (Sum.inr (fun _ => none))))) : va_E) = Sum.inl (D.2.2.2.1, 16, Sum.inr (Sum.inr (Sum.inr (Sum.inr (fV h0 0)))))
    rw [show fV h0 0 = (fun _ => none) from funext fun v => if_neg (Nat.not_lt_zero v)]
def eT (D : DD) (h0 : Nat) : Nat → va_E := fun j => if j = 0 then .inr (4, [.ref (h0 + 1), .ref (h0 + 36), .ref (h0 + 71), .ref (h0 + 106), .ref (h0 + 108), .ref (h0 + 112), .int 0, .int 0, .int 0, .int 0, .int 0, .int 0, .int 0]) else if j < 36 then eS D (h0 + 1) 16 (.ref (h0 + 1 + 34)) (j - 1) else if j < 71 then eS D (h0 + 36) 16 (.ref (h0 + 36 + 34)) (j - 36) else if j < 106 then eS D (h0 + 71) 16 (.ref (h0 + 71 + 34)) (j - 71) else if j < 108 then eP D (h0 + 106) (h0 + 1) (h0 + 36) (h0 + 71) (j - 106) else if j < 112 then eQ D (h0 + 108) (j - 108) else iA D 160
set_option maxHeartbeats 4000000 in
set_option maxRecDepth 100000 in
theorem i_X0 (l : Launch) (D : DD) (h0 : Nat) (a b c : Nat) : HI l D h0 yX0_init cX0_init 4 1 12 1 384 [.ref (h0 + 0), .ref a, .ref b, .ref c] (.inr (0, [.int 0, .int 0, .int 0, .int 0, .int 0, .null, .null, .null, .null])) 2 (eP D h0 a b c) := by
  refine HI.of (by decide) (by simp [Value.category]) (by simp) ?_
  intro pp ee ss mm aa bb me cd Q C hin hsz hAO hret
  show ZE pp l ee (rmI 1 12 1 384) ss mm aa bb me cd D h0 1 4 0 0 Q (fun _ => .inr (0, [.int 0, .int 0, .int 0, .int 0, .int 0, .null, .null, .null, .null])) 0 [some (.ref (h0 + 0)), some (.ref a), some (.ref b), some (.ref c)] []
  refine k_aload_n C rfl dX0_init_0 ?_
  refine k_objI C wi_139 wi_66 wi_oc ⟨by decide, by decide⟩ dX0_init_1 ?_
  refine k_aload_n C rfl dX0_init_4 ?_
  refine k_aload_n C rfl dX0_init_5 ?_
  refine k_putF C (k := 0) (v := .ref a) (ty := (tyX0 5)) 5 tyX0 rfl (by decide) rfl in_X0 tyX0_ok nmX0 (by decide) wf_X0_9 rfl rfl hin rfl (by decide +kernel) rfl rfl (by simp) dX0_init_6 ?_
  refine k_aload_n C rfl dX0_init_9 ?_
  refine k_aload_n C rfl dX0_init_10 ?_
  refine k_putF C (k := 0) (v := .ref b) (ty := (tyX0 6)) 6 tyX0 rfl (by decide) rfl in_X0 tyX0_ok nmX0 (by decide) wf_X0_15 rfl rfl hin rfl (by decide +kernel) rfl rfl (by simp) dX0_init_11 ?_
  refine k_aload_n C rfl dX0_init_14 ?_
  refine k_aload_n C rfl dX0_init_15 ?_
  refine k_putF C (k := 0) (v := .ref c) (ty := (tyX0 7)) 7 tyX0 rfl (by decide) rfl in_X0 tyX0_ok nmX0 (by decide) wf_X0_18 rfl rfl hin rfl (by decide +kernel) rfl rfl (by simp) dX0_init_16 ?_
  refine k_aload_n C rfl dX0_init_19 ?_
  refine k_sipush (v := 384) C (by decide +kernel) dX0_init_20 ?_
  refine k_newa C (N0 := 1) (n' := 384) (by decide) hsz (by decide) rfl (by decide) wi_118 (by decide) (by decide) dX0_init_23 ?_
  refine k_putF C (k := 0) (v := .ref (h0 + 1)) (ty := (tyX0 8)) 8 tyX0 rfl (by decide) rfl in_X0 tyX0_ok nmX0 (by decide) wf_X0_21 rfl rfl hin rfl (by decide +kernel) rfl rfl (by simp) dX0_init_25 ?_
  refine k_aload_n C rfl dX0_init_28 ?_
  refine k_bipush (v := 8) C (by decide +kernel) dX0_init_29 ?_
  refine k_put C (k := 0) (v := .int 8) (ty := .int) 0 tyX0 rfl (by decide) rfl in_X0 tyX0_ok nmX0 (by decide) wf_X0_25 rfl rfl (by decide +kernel) rfl rfl (by simp) dX0_init_31 ?_
  exact k_cast (hret _ [some (.ref (h0 + 0)), some (.ref a), some (.ref b), some (.ref c)] dX0_init_34) (fun j hj => by rcases (show j = 0 ∨ j = 1 by omega) with rfl | rfl <;> rfl) ⟨rfl, rfl, rfl, rfl, trivial⟩ rfl
set_option maxHeartbeats 4000000 in
set_option maxRecDepth 100000 in
theorem i_X1 (l : Launch) (D : DD) (h0 : Nat) : HI l D h0 yX1_init cX1_init 1 1 12 3 24 [.ref (h0 + 0)] (.inr (1, [.int 0, .null, .null, .null])) 4 (eQ D h0) := by
  refine HI.of (by decide) (by simp [Value.category]) (by simp) ?_
  intro pp ee ss mm aa bb me cd Q C hin hsz hAO hret
  show ZE pp l ee (rmI 1 12 3 24) ss mm aa bb me cd D h0 1 1 0 0 Q (fun _ => .inr (1, [.int 0, .null, .null, .null])) 0 [some (.ref (h0 + 0))] []
  refine k_aload_n C rfl dX1_init_0 ?_
  refine k_objI C wi_176 wi_66 wi_oc ⟨by decide, by decide⟩ dX1_init_1 ?_
  refine k_aload_n C rfl dX1_init_4 ?_
  refine k_bipush (v := 8) C (by decide +kernel) dX1_init_5 ?_
  refine k_newa C (N0 := 1) (n' := 8) (by decide) hsz (by decide) rfl (by decide) wi_118 (by decide) (by decide) dX1_init_7 ?_
  refine k_putF C (k := 0) (v := .ref (h0 + 1)) (ty := (tyX1 1)) 1 tyX1 rfl (by decide) rfl in_X1 tyX1_ok nmX1 (by decide) wf_X1_9 rfl rfl hin rfl (by decide +kernel) rfl rfl (by simp) dX1_init_9 ?_
  refine k_aload_n C rfl dX1_init_12 ?_
  refine k_bipush (v := 8) C (by decide +kernel) dX1_init_13 ?_
  refine k_newa C (N0 := 1) (n' := 8) (by decide) hsz (by decide) rfl (by decide) wi_118 (by decide) (by decide) dX1_init_15 ?_
  refine k_putF C (k := 0) (v := .ref (h0 + 2)) (ty := (tyX1 2)) 2 tyX1 rfl (by decide) rfl in_X1 tyX1_ok nmX1 (by decide) wf_X1_15 rfl rfl hin rfl (by decide +kernel) rfl rfl (by simp) dX1_init_17 ?_
  refine k_aload_n C rfl dX1_init_20 ?_
  refine k_bipush (v := 8) C (by decide +kernel) dX1_init_21 ?_
  refine k_newa C (N0 := 1) (n' := 8) (by decide) hsz (by decide) rfl (by decide) wi_118 (by decide) (by decide) dX1_init_23 ?_
  refine k_putF C (k := 0) (v := .ref (h0 + 3)) (ty := (tyX1 3)) 3 tyX1 rfl (by decide) rfl in_X1 tyX1_ok nmX1 (by decide) wf_X1_18 rfl rfl hin rfl (by decide +kernel) rfl rfl (by simp) dX1_init_25 ?_
  exact k_cast (hret _ [some (.ref (h0 + 0))] dX1_init_28) (fun j hj => by rcases (show j = 0 ∨ j = 1 ∨ j = 2 ∨ j = 3 by omega) with rfl | rfl | rfl | rfl <;> rfl) ⟨rfl, trivial⟩ rfl
set_option maxHeartbeats 4000000 in
set_option maxRecDepth 100000 in
theorem i_X5 (l : Launch) (D : DD) (h0 : Nat) : HI l D h0 yX5_init cX5_init 1 1 12 12 2731 [.ref (h0 + 0)] (.inr (5, [.int 0, .null, .null, .null, .null, .null, .null, .null, .int 0, .int 0, .null, .null, .int 0, .int 0, .int 0, .int 0, .int 0, .int 0, .int 0, .int 0, .int 0, .int 0, .int 0, .int 0, .null, .null, .null])) 13 (eM D h0) := by
  refine HI.of (by decide) (by simp [Value.category]) (by simp) ?_
  intro pp ee ss mm aa bb me cd Q C hin hsz hAO hret
  show ZE pp l ee (rmI 1 12 12 2731) ss mm aa bb me cd D h0 1 1 0 0 Q (fun _ => .inr (5, [.int 0, .null, .null, .null, .null, .null, .null, .null, .int 0, .int 0, .null, .null, .int 0, .int 0, .int 0, .int 0, .int 0, .int 0, .int 0, .int 0, .int 0, .int 0, .int 0, .int 0, .null, .null, .null])) 0 [some (.ref (h0 + 0))] []
  refine k_aload_n C rfl dX5_init_0 ?_
  refine k_objI C wi_757 wi_66 wi_oc ⟨by decide, by decide⟩ dX5_init_1 ?_
  refine k_aload_n C rfl dX5_init_4 ?_
  refine k_bipush (v := 48) C (by decide +kernel) dX5_init_5 ?_
  refine k_newz C (N0 := 1) (n' := 48) (by decide) hsz (by decide) rfl (by decide) wi_840 (by decide) (by decide) dX5_init_7 ?_
  refine k_putF C (k := 0) (v := .ref (h0 + 1)) (ty := (tyX5 1)) 1 tyX5 rfl (by decide) rfl in_X5 tyX5_ok nmX5 (by decide) wf_X5_7 rfl rfl hin rfl (by decide +kernel) rfl rfl (by simp) dX5_init_9 ?_
  refine k_aload_n C rfl dX5_init_12 ?_
  refine k_bipush (v := 48) C (by decide +kernel) dX5_init_13 ?_
  refine k_newa C (N0 := 1) (n' := 48) (by decide) hsz (by decide) rfl (by decide) wi_118 (by decide) (by decide) dX5_init_15 ?_
  refine k_putF C (k := 0) (v := .ref (h0 + 2)) (ty := (tyX5 2)) 2 tyX5 rfl (by decide) rfl in_X5 tyX5_ok nmX5 (by decide) wf_X5_13 rfl rfl hin rfl (by decide +kernel) rfl rfl (by simp) dX5_init_17 ?_
  refine k_aload_n C rfl dX5_init_20 ?_
  refine k_bipush (v := 48) C (by decide +kernel) dX5_init_21 ?_
  refine k_newz C (N0 := 1) (n' := 48) (by decide) hsz (by decide) rfl (by decide) wi_840 (by decide) (by decide) dX5_init_23 ?_
  refine k_putF C (k := 0) (v := .ref (h0 + 3)) (ty := (tyX5 3)) 3 tyX5 rfl (by decide) rfl in_X5 tyX5_ok nmX5 (by decide) wf_X5_17 rfl rfl hin rfl (by decide +kernel) rfl rfl (by simp) dX5_init_25 ?_
  refine k_aload_n C rfl dX5_init_28 ?_
  refine k_bipush (v := 48) C (by decide +kernel) dX5_init_29 ?_
  refine k_newa C (N0 := 1) (n' := 48) (by decide) hsz (by decide) rfl (by decide) wi_118 (by decide) (by decide) dX5_init_31 ?_
  refine k_putF C (k := 0) (v := .ref (h0 + 4)) (ty := (tyX5 4)) 4 tyX5 rfl (by decide) rfl in_X5 tyX5_ok nmX5 (by decide) wf_X5_20 rfl rfl hin rfl (by decide +kernel) rfl rfl (by simp) dX5_init_33 ?_
  refine k_aload_n C rfl dX5_init_36 ?_
  refine k_bipush (v := 48) C (by decide +kernel) dX5_init_37 ?_
  refine k_newa C (N0 := 1) (n' := 48) (by decide) hsz (by decide) rfl (by decide) wi_118 (by decide) (by decide) dX5_init_39 ?_
  refine k_putF C (k := 0) (v := .ref (h0 + 5)) (ty := (tyX5 5)) 5 tyX5 rfl (by decide) rfl in_X5 tyX5_ok nmX5 (by decide) wf_X5_23 rfl rfl hin rfl (by decide +kernel) rfl rfl (by simp) dX5_init_41 ?_
  refine k_aload_n C rfl dX5_init_44 ?_
  refine k_sipush (v := 1920) C (by decide +kernel) dX5_init_45 ?_
  refine k_newa C (N0 := 1) (n' := 1920) (by decide) hsz (by decide) rfl (by decide) wi_118 (by decide) (by decide) dX5_init_48 ?_
  refine k_putF C (k := 0) (v := .ref (h0 + 6)) (ty := (tyX5 6)) 6 tyX5 rfl (by decide) rfl in_X5 tyX5_ok nmX5 (by decide) wf_X5_26 rfl rfl hin rfl (by decide +kernel) rfl rfl (by simp) dX5_init_50 ?_
  refine k_aload_n C rfl dX5_init_53 ?_
  refine k_iconst (v := 3) C (by decide +kernel) dX5_init_54 ?_
  refine k_newa C (N0 := 1) (n' := 3) (by decide) hsz (by decide) rfl (by decide) wi_118 (by decide) (by decide) dX5_init_55 ?_
  refine k_putF C (k := 0) (v := .ref (h0 + 7)) (ty := (tyX5 7)) 7 tyX5 rfl (by decide) rfl in_X5 tyX5_ok nmX5 (by decide) wf_X5_29 rfl rfl hin rfl (by decide +kernel) rfl rfl (by simp) dX5_init_57 ?_
  refine k_aload_n C rfl dX5_init_60 ?_
  refine k_bipush (v := 8) C (by decide +kernel) dX5_init_61 ?_
  refine k_put C (k := 0) (v := .int 8) (ty := .int) 9 tyX5 rfl (by decide) rfl in_X5 tyX5_ok nmX5 (by decide) wf_X5_32 rfl rfl (by decide +kernel) rfl rfl (by simp) dX5_init_63 ?_
  refine k_aload_n C rfl dX5_init_66 ?_
  refine k_sipush (v := 384) C (by decide +kernel) dX5_init_67 ?_
  refine k_newa C (N0 := 1) (n' := 384) (by decide) hsz (by decide) rfl (by decide) wi_118 (by decide) (by decide) dX5_init_70 ?_
  refine k_putF C (k := 0) (v := .ref (h0 + 8)) (ty := (tyX5 10)) 10 tyX5 rfl (by decide) rfl in_X5 tyX5_ok nmX5 (by decide) wf_X5_36 rfl rfl hin rfl (by decide +kernel) rfl rfl (by simp) dX5_init_72 ?_
  refine k_aload_n C rfl dX5_init_75 ?_
  refine k_sipush (v := 160) C (by decide +kernel) dX5_init_76 ?_
  refine k_newa C (N0 := 1) (n' := 160) (by decide) hsz (by decide) rfl (by decide) wi_118 (by decide) (by decide) dX5_init_79 ?_
  refine k_putF C (k := 0) (v := .ref (h0 + 9)) (ty := (tyX5 11)) 11 tyX5 rfl (by decide) rfl in_X5 tyX5_ok nmX5 (by decide) wf_X5_39 rfl rfl hin rfl (by decide +kernel) rfl rfl (by simp) dX5_init_81 ?_
  refine k_aload_n C rfl dX5_init_84 ?_
  refine k_bipush (v := 8) C (by decide +kernel) dX5_init_85 ?_
  refine k_newa C (N0 := 1) (n' := 8) (by decide) hsz (by decide) rfl (by decide) wi_118 (by decide) (by decide) dX5_init_87 ?_
  refine k_putF C (k := 0) (v := .ref (h0 + 10)) (ty := (tyX5 24)) 24 tyX5 rfl (by decide) rfl in_X5 tyX5_ok nmX5 (by decide) wf_X5_42 rfl rfl hin rfl (by decide +kernel) rfl rfl (by simp) dX5_init_89 ?_
  refine k_aload_n C rfl dX5_init_92 ?_
  refine k_bipush (v := 8) C (by decide +kernel) dX5_init_93 ?_
  refine k_newa C (N0 := 1) (n' := 8) (by decide) hsz (by decide) rfl (by decide) wi_118 (by decide) (by decide) dX5_init_95 ?_
  refine k_putF C (k := 0) (v := .ref (h0 + 11)) (ty := (tyX5 25)) 25 tyX5 rfl (by decide) rfl in_X5 tyX5_ok nmX5 (by decide) wf_X5_45 rfl rfl hin rfl (by decide +kernel) rfl rfl (by simp) dX5_init_97 ?_
  refine k_aload_n C rfl dX5_init_100 ?_
  refine k_bipush (v := 8) C (by decide +kernel) dX5_init_101 ?_
  refine k_newa C (N0 := 1) (n' := 8) (by decide) hsz (by decide) rfl (by decide) wi_118 (by decide) (by decide) dX5_init_103 ?_
  refine k_putF C (k := 0) (v := .ref (h0 + 12)) (ty := (tyX5 26)) 26 tyX5 rfl (by decide) rfl in_X5 tyX5_ok nmX5 (by decide) wf_X5_48 rfl rfl hin rfl (by decide +kernel) rfl rfl (by simp) dX5_init_105 ?_
  exact k_cast (hret _ [some (.ref (h0 + 0))] dX5_init_108) (fun j hj => by rcases (show j = 0 ∨ j = 1 ∨ j = 2 ∨ j = 3 ∨ j = 4 ∨ j = 5 ∨ j = 6 ∨ j = 7 ∨ j = 8 ∨ j = 9 ∨ j = 10 ∨ j = 11 ∨ j = 12 by omega) with rfl | rfl | rfl | rfl | rfl | rfl | rfl | rfl | rfl | rfl | rfl | rfl | rfl <;> rfl) ⟨rfl, trivial⟩ rfl
set_option maxHeartbeats 4000000 in
set_option maxRecDepth 100000 in
theorem i_X4 (l : Launch) (D : DD) (h0 : Nat) : HI l D h0 yX4_init cX4_init 1 3 64 112 3185 [.ref (h0 + 0)] (.inr (4, [.null, .null, .null, .null, .null, .null, .int 0, .int 0, .int 0, .int 0, .int 0, .int 0, .int 0])) 113 (eT D h0) := by
  refine HI.of (by decide) (by simp [Value.category]) (by simp) ?_
  intro pp ee ss mm aa bb me cd Q C hin hsz hAO hret
  show ZE pp l ee (rmI 3 64 112 3185) ss mm aa bb me cd D h0 1 1 0 0 Q (fun _ => .inr (4, [.null, .null, .null, .null, .null, .null, .int 0, .int 0, .int 0, .int 0, .int 0, .int 0, .int 0])) 0 [some (.ref (h0 + 0))] []
  refine k_aload_n C rfl dX4_init_0 ?_
  refine k_objI C wi_65 wi_66 wi_oc ⟨by decide, by decide⟩ dX4_init_1 ?_
  refine k_aload_n C rfl dX4_init_4 ?_
  refine k_new C (N0 := 1) (ci := 2) (fs := [.int 0, .int 0, .null, .null]) (NF := 4) tyX2 (Or.inl (by decide)) hsz (by decide) in_X2 tyX2_ok wi_68 wi_69 wi_47 rfl (fun j hj => by rcases (show j = 0 ∨ j = 1 ∨ j = 2 ∨ j = 3 by omega) with rfl | rfl | rfl | rfl <;> rfl) (by decide) (by decide) dX4_init_5 ?_
  refine k_dup C rfl dX4_init_8 ?_
  refine k_init C (N0 := 1) (n := 0) (K0 := 1) (As := []) (st := [.ref (h0 + 1), .ref (h0 + 0)]) hAO hsz (by decide) (i_X2 l D (h0 + 1)) rfl wi_47 wi_70 wi_71 wi_72 rfl (by decide +kernel) rfl ⟨by decide, by decide⟩ ⟨by decide, by decide⟩ (by simp [Value.category]) dX4_init_9 rfl ?_
  refine k_putF C (k := 0) (v := .ref (h0 + 1)) (ty := (tyX4 0)) 0 tyX4 rfl (by decide) rfl in_X4 tyX4_ok nmX4 (by decide) wf_X4_10 rfl rfl hin rfl (by decide +kernel) rfl rfl (by simp) dX4_init_12 ?_
  refine k_aload_n C rfl dX4_init_15 ?_
  refine k_new C (N0 := 1) (ci := 2) (fs := [.int 0, .int 0, .null, .null]) (NF := 4) tyX2 (Or.inl (by decide)) hsz (by decide) in_X2 tyX2_ok wi_68 wi_69 wi_47 rfl (fun j hj => by rcases (show j = 0 ∨ j = 1 ∨ j = 2 ∨ j = 3 by omega) with rfl | rfl | rfl | rfl <;> rfl) (by decide) (by decide) dX4_init_16 ?_
  refine k_dup C rfl dX4_init_19 ?_
  refine k_init C (N0 := 1) (n := 0) (K0 := 36) (As := []) (st := [.ref (h0 + 36), .ref (h0 + 0)]) hAO hsz (by decide) (i_X2 l D (h0 + 36)) rfl wi_47 wi_70 wi_71 wi_72 rfl (by decide +kernel) rfl ⟨by decide, by decide⟩ ⟨by decide, by decide⟩ (by simp [Value.category]) dX4_init_20 rfl ?_
  refine k_putF C (k := 0) (v := .ref (h0 + 36)) (ty := (tyX4 1)) 1 tyX4 rfl (by decide) rfl in_X4 tyX4_ok nmX4 (by decide) wf_X4_16 rfl rfl hin rfl (by decide +kernel) rfl rfl (by simp) dX4_init_23 ?_
  refine k_aload_n C rfl dX4_init_26 ?_
  refine k_new C (N0 := 1) (ci := 2) (fs := [.int 0, .int 0, .null, .null]) (NF := 4) tyX2 (Or.inl (by decide)) hsz (by decide) in_X2 tyX2_ok wi_68 wi_69 wi_47 rfl (fun j hj => by rcases (show j = 0 ∨ j = 1 ∨ j = 2 ∨ j = 3 by omega) with rfl | rfl | rfl | rfl <;> rfl) (by decide) (by decide) dX4_init_27 ?_
  refine k_dup C rfl dX4_init_30 ?_
  refine k_init C (N0 := 1) (n := 0) (K0 := 71) (As := []) (st := [.ref (h0 + 71), .ref (h0 + 0)]) hAO hsz (by decide) (i_X2 l D (h0 + 71)) rfl wi_47 wi_70 wi_71 wi_72 rfl (by decide +kernel) rfl ⟨by decide, by decide⟩ ⟨by decide, by decide⟩ (by simp [Value.category]) dX4_init_31 rfl ?_
  refine k_putF C (k := 0) (v := .ref (h0 + 71)) (ty := (tyX4 2)) 2 tyX4 rfl (by decide) rfl in_X4 tyX4_ok nmX4 (by decide) wf_X4_19 rfl rfl hin rfl (by decide +kernel) rfl rfl (by simp) dX4_init_34 ?_
  refine k_aload_n C rfl dX4_init_37 ?_
  refine k_new C (N0 := 1) (ci := 0) (fs := [.int 0, .int 0, .int 0, .int 0, .int 0, .null, .null, .null, .null]) (NF := 9) tyX0 (Or.inl (by decide)) hsz (by decide) in_X0 tyX0_ok wi_134 wi_135 wi_50 rfl (fun j hj => by rcases (show j = 0 ∨ j = 1 ∨ j = 2 ∨ j = 3 ∨ j = 4 ∨ j = 5 ∨ j = 6 ∨ j = 7 ∨ j = 8 by omega) with rfl | rfl | rfl | rfl | rfl | rfl | rfl | rfl | rfl <;> rfl) (by decide) (by decide) dX4_init_38 ?_
  refine k_dup C rfl dX4_init_41 ?_
  refine k_aload_n C rfl dX4_init_42 ?_
  refine k_getf C (k := 0) (v := .ref (h0 + 1)) 0 rfl (by decide) rfl in_X4 (by decide) wf_X4_10 rfl rfl dX4_init_43 ?_
  refine k_aload_n C rfl dX4_init_46 ?_
  refine k_getf C (k := 0) (v := .ref (h0 + 36)) 1 rfl (by decide) rfl in_X4 (by decide) wf_X4_16 rfl rfl dX4_init_47 ?_
  refine k_aload_n C rfl dX4_init_50 ?_
  refine k_getf C (k := 0) (v := .ref (h0 + 71)) 2 rfl (by decide) rfl in_X4 (by decide) wf_X4_19 rfl rfl dX4_init_51 ?_
  refine k_init C (N0 := 1) (n := 3) (K0 := 106) (As := [.ref (h0 + 1), .ref (h0 + 36), .ref (h0 + 71)]) (st := [.ref (h0 + 106), .ref (h0 + 0)]) hAO hsz (by decide) (i_X0 l D (h0 + 106) (h0 + 1) (h0 + 36) (h0 + 71)) rfl wi_50 wi_136 wi_137 wi_138 rfl (by decide +kernel) rfl ⟨by decide, by decide⟩ ⟨by decide, by decide⟩ (by simp [Value.category]) dX4_init_54 rfl ?_
  refine k_putF C (k := 0) (v := .ref (h0 + 106)) (ty := (tyX4 3)) 3 tyX4 rfl (by decide) rfl in_X4 tyX4_ok nmX4 (by decide) wf_X4_27 rfl rfl hin rfl (by decide +kernel) rfl rfl (by simp) dX4_init_57 ?_
  refine k_aload_n C rfl dX4_init_60 ?_
  refine k_new C (N0 := 1) (ci := 1) (fs := [.int 0, .null, .null, .null]) (NF := 4) tyX1 (Or.inl (by decide)) hsz (by decide) in_X1 tyX1_ok wi_171 wi_172 wi_51 rfl (fun j hj => by rcases (show j = 0 ∨ j = 1 ∨ j = 2 ∨ j = 3 by omega) with rfl | rfl | rfl | rfl <;> rfl) (by decide) (by decide) dX4_init_61 ?_
  refine k_dup C rfl dX4_init_64 ?_
  refine k_init C (N0 := 1) (n := 0) (K0 := 108) (As := []) (st := [.ref (h0 + 108), .ref (h0 + 0)]) hAO hsz (by decide) (i_X1 l D (h0 + 108)) rfl wi_51 wi_173 wi_174 wi_175 rfl (by decide +kernel) rfl ⟨by decide, by decide⟩ ⟨by decide, by decide⟩ (by simp [Value.category]) dX4_init_65 rfl ?_
  refine k_putF C (k := 0) (v := .ref (h0 + 108)) (ty := (tyX4 4)) 4 tyX4 rfl (by decide) rfl in_X4 tyX4_ok nmX4 (by decide) wf_X4_34 rfl rfl hin rfl (by decide +kernel) rfl rfl (by simp) dX4_init_68 ?_
  refine k_aload_n C rfl dX4_init_71 ?_
  refine k_sipush (v := 160) C (by decide +kernel) dX4_init_72 ?_
  refine k_newa C (N0 := 1) (n' := 160) (by decide) hsz (by decide) rfl (by decide) wi_118 (by decide) (by decide) dX4_init_75 ?_
  refine k_putF C (k := 0) (v := .ref (h0 + 112)) (ty := (tyX4 5)) 5 tyX4 rfl (by decide) rfl in_X4 tyX4_ok nmX4 (by decide) wf_X4_38 rfl rfl hin rfl (by decide +kernel) rfl rfl (by simp) dX4_init_77 ?_
  refine k_cast (hret _ [some (.ref (h0 + 0))] dX4_init_80) (fun j hj => ?_) ⟨rfl, trivial⟩ rfl
  by_cases j0 : j = 0
  · subst j0; rfl
  · unfold eT
    rw [if_neg j0]
    simp only [upE, appE]
    by_cases j1 : j < 36
    · rw [if_pos j1]
      simp (config := { decide := true }) only [if_neg j0, if_neg (show ¬ j = 112 by omega), if_neg (show ¬ j = 108 by omega), if_neg (show ¬ j = 106 by omega), if_neg (show ¬ j = 71 by omega), if_neg (show ¬ j = 36 by omega), if_pos (show j < 108 by omega), if_pos (show j < 106 by omega), if_pos (show j < 71 by omega), if_pos j1, if_neg (show ¬ j < 1 by omega)]
    rw [if_neg j1]
    by_cases j2 : j < 71
    · rw [if_pos j2]
      simp (config := { decide := true }) only [if_neg j0, if_neg (show ¬ j = 112 by omega), if_neg (show ¬ j = 108 by omega), if_neg (show ¬ j = 106 by omega), if_neg (show ¬ j = 71 by omega), if_pos (show j < 108 by omega), if_pos (show j < 106 by omega), if_pos j2, if_neg j1]
    rw [if_neg j2]
    by_cases j3 : j < 106
    · rw [if_pos j3]
      simp (config := { decide := true }) only [if_neg j0, if_neg (show ¬ j = 112 by omega), if_neg (show ¬ j = 108 by omega), if_neg (show ¬ j = 106 by omega), if_pos (show j < 108 by omega), if_pos j3, if_neg j2, if_neg j1]
    rw [if_neg j3]
    by_cases j4 : j < 108
    · rw [if_pos j4]
      simp (config := { decide := true }) only [if_neg j0, if_neg (show ¬ j = 112 by omega), if_neg (show ¬ j = 108 by omega), if_pos j4, if_neg j3, if_neg j2, if_neg j1]
    rw [if_neg j4]
    by_cases j5 : j < 112
    · rw [if_pos j5]
      simp (config := { decide := true }) only [if_neg j0, if_neg (show ¬ j = 112 by omega), if_neg j4, if_neg j3, if_neg j2, if_neg j1]
    rw [if_neg j5]
    obtain rfl : j = 112 := by omega
    rfl
