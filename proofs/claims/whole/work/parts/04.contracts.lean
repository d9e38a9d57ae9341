def strs : List (Nat × String) := [(274, "no such number of a volume"), (281, "no such size"), (58, "there is this volume"), (279, "no such volume"), (285, "a write waits for one of these places"), (283, "no such word"), (150, "not all these places"), (287, "below 0"), (164, "no such word of the backing"), (170, "a volume is backed"), (174, "no such quota"), (291, "no such state"), (190, "no such cut"), (203, "one is held"), (208, "no such patience"), (213, "no such alarm"), (218, "not so many seconds"), (229, "no such volume or place"), (244, "no such what"), (289, "no such extent")]
def cIO : String := "java/lang/IndexOutOfBoundsException"
def cIA : String := "java/lang/IllegalArgumentException"
def cIS : String := "java/lang/IllegalStateException"
def excs : List String := [cIO, cIA, cIS]
def dcls : List Cond := [Cond.declares (Bundle.initS "java/lang/RuntimeException"), Cond.declares (Bundle.initS "java/lang/Exception"), Cond.declares (Bundle.initS Bundle.tN)]
def nocs : List (String × String) := [(cIA, cIS), (cIA, cIO), (cIS, cIA), (cIS, cIO), (cIO, cIA), (cIO, cIS)]
/-- what every method may take as given of the machine's tables and statics -/
def KX (D : DD) (n0 : Nat) (U : State) (H : Heap) : Prop :=
  va_K D.1 vwCl (tyl D) U ∧ (∀ q ∈ strs, ∃ sa, vk_R RX4 q.1 q.2 sa U) ∧ (∀ E ∈ excs, va_Nw (.castable E E) U) ∧ (∀ w ∈ dcls, va_Nw w U) ∧ (∀ q ∈ nocs, va_Nc q.1 q.2 U) ∧
  vx_Zq Bundle.tN "UNASSIGNED_STACK" Bundle.steD (fun q => n0 ≤ q) U H ∧ vx_Zq Bundle.tN "SUPPRESSED_SENTINEL" Bundle.listD (fun q => n0 ≤ q) U H
theorem KX.warm {D : DD} {n0 : Nat} {s U : State} {H0 H : Heap} (h : KX D n0 s H0) (hW : s.WarmedH U.vm) (hq : ∀ a : Nat, a < H0.size → ¬ n0 ≤ a → H[a]? = H0[a]?) : KX D n0 U H := by
  obtain ⟨h1, h2, h3, h3d, h4, h5, h6⟩ := h
  refine ⟨va_K.moved hW.alike h1, fun q hq => ?_, fun E hE => (h3 E hE).warmC hW, fun w hw => ?_, fun q hq => (h4 q hq).moved hW.alike, (h5.moved hW.alike).kept hq, (h6.moved hW.alike).kept hq⟩
  · obtain ⟨sa, hs⟩ := h2 q hq
    exact ⟨sa, hs.warm hW⟩
  · have h9 := h3d w hw
    simp only [dcls, List.mem_cons, List.not_mem_nil, or_false] at hw
    rcases hw with rfl | rfl | rfl <;> exact h9.warmD hW
theorem KX.same {D : DD} {n0 : Nat} {s U : State} {H : Heap} (h : KX D n0 s H) (hv : U.vm = s.vm) : KX D n0 U H :=
  h.warm (by rw [hv]; exact State.WarmedH.refl s) (fun _ _ _ => rfl)
def PcW (D : DD) (n0 N : Nat) (σ : ST) (U : State) : Prop := va_P D.1 vwCl (wl D n0 N σ) U.heap ∧ KX D n0 U U.heap ∧ n0 ≤ U.heap.size
theorem PcW.blind {D : DD} {n0 N : Nat} {σ : ST} {av : List Value} : FrameBlind (va_Pc av (PcW D n0 N σ)) := fun a U g mk q => ⟨q.1, q.2.1, q.2.2.1.same rfl, q.2.2.2⟩
theorem PcW.mk {D : DD} {n0 N : Nat} {σ : ST} {s U : State} {H : Heap} {locs : List Loc} (K : KX D n0 s s.heap) (hn : n0 ≤ s.heap.size) (hP : va_P D.1 vwCl (wl D n0 N σ) H) (hS : va_S (fun q => n0 ≤ q) s.heap H locs) (hU : U.heap = H) (hW : s.WarmedH U.vm) : PcW D n0 N σ U := by
  refine ⟨by rw [hU]; exact hP, by rw [hU]; exact K.warm hW hS.2.1, by rw [hU]; exact Nat.le_trans hn hS.1⟩
def QcM (D : DD) (n0 N : Nat) (r : Option Value) (σ' : ST) : Array Value → State → Outcome → State → Prop := fun _ st oc t => (oc = .returned r ∧ va_P D.1 vwCl (wl D n0 N σ') t.heap) ∧ va_F (fun q => n0 ≤ q) st t
def rmk (f w : Nat) : Room := { frames := f, cells := 0, slots := 0, locals := w }
def rmx (f w : Nat) : Room := { frames := f, cells := 1, slots := 6, locals := w }
/-- a method that returns r and leaves the world σ' -/
def HM (l : Launch) (D : DD) (n0 : Nat) (y : MethodName) (cc : ByteArray) (maxL : Nat) (ret : Option FieldType) (f w : Nat) (av : List Value) (σ : ST) (r : Option Value) (σ' : ST) : Prop :=
  Met l y (Cond.code y cc maxL ret :: tb) (rmk f w) (va_Pc av (PcW D n0 127 σ)) (QcM D n0 127 r σ') 0 0 (fun q => n0 ≤ q)
def XcT (D : DD) (n0 : Nat) (E : String) (σ : ST) : String → State → State → Prop := fun E' st t => E' = E ∧ va_P D.1 vwCl (wl D n0 127 σ) t.heap ∧ va_F (fun q => n0 ≤ q) st t
/-- a method that throws an E and leaves the world as it is -/
def HT (l : Launch) (D : DD) (n0 : Nat) (y : MethodName) (cc : ByteArray) (maxL : Nat) (ret : Option FieldType) (f w : Nat) (av : List Value) (σ : ST) (E : String) : Prop :=
  vx_Met l y (Cond.code y cc maxL ret :: tb) (rmx f w) (va_Pc av (PcW D n0 127 σ)) (fun _ _ _ _ => False) (XcT D n0 E σ) 1 6 (fun q => n0 ≤ q)
theorem lv_args_mem : ∀ (av : List Value) (k i : Nat) (v : Value), (∀ x ∈ av, x.category = 1) → av[i]? = some v → (k + i, v) ∈ lv_args k av
  | [], _, _, _, _, h => by simp at h
  | x :: av, k, 0, v, hc, h => by
    simp at h
    subst h
    simp [lv_args]
  | x :: av, k, i + 1, v, hc, h => by
    have h1 : x.category = 1 := hc x List.mem_cons_self
    have h2 := lv_args_mem av (k + 1) i v (fun y hy => hc y (List.mem_cons_of_mem _ hy)) (by simpa using h)
    rw [lv_args, if_neg (by omega)]
    refine List.mem_cons_of_mem _ ?_
    rw [show k + (i + 1) = k + 1 + i by omega]
    exact h2
theorem lg_sl_len : ∀ (av : List Value), (∀ x ∈ av, x.category = 1) → (lg_sl av).length = av.length
  | [], _ => rfl
  | x :: av, hc => by
    have h1 : x.category = 1 := hc x List.mem_cons_self
    have h2 := lg_sl_len av (fun y hy => hc y (List.mem_cons_of_mem _ hy))
    simp only [lg_sl, List.flatMap_cons, List.length_append, List.length_cons] at h2 ⊢
    rw [h2]
    simp [h1]
    omega
def ent (av : List Value) (n : Nat) : List (Option Value) := av.map some ++ List.replicate (n - av.length) none
theorem ent_lh {av : List Value} {n : Nat} (hc : ∀ x ∈ av, x.category = 1) (hn : av.length ≤ n) : lh ((lg_sl av ++ List.replicate (n - (lg_sl av).length) Slot.unset).toArray) n (ent av n) := by
  obtain ⟨h1, h2, h3⟩ := lv_entry av (n := n) (by rw [lg_sl_len av hc]; exact hn)
  refine ⟨h1, h2, fun i v hi => ?_⟩
  have hi2 : av[i]? = some v := by
    unfold ent at hi
    by_cases h : i < av.length
    · rw [List.getElem?_append_left (by simpa using h), List.getElem?_map] at hi
      cases h4 : av[i]? with
      | none => simp [h4] at hi
      | some u => simp [h4] at hi; rw [hi]
    · rw [List.getElem?_append_right (by simpa using Nat.not_lt.mp h)] at hi
      have h5 := List.eq_of_mem_replicate (List.mem_of_getElem? hi)
      cases h5
  have h4 := h3 (i, v) (by simpa using lv_args_mem av 0 i v hc hi2)
  exact ⟨h4, hc v (List.mem_of_getElem? hi2)⟩
section BODY
variable {l : Launch} {D : DD} {n0 : Nat} {y : MethodName} {cc : ByteArray} {maxL : Nat} {ret : Option FieldType} {f w : Nat} {av : List Value} {σ σ' : ST} {r : Option Value}
theorem HM.of (hy : plainName y.cls = true) (hc : ∀ x ∈ av, x.category = 1) (hn : av.length ≤ maxL)
    (hr : (r = none ∧ ret = none) ∨ (∃ v ty, r = some (.int v) ∧ ret = some ty ∧ narrow ty (.int v) = .int v) ∨ (∃ v n, r = some v ∧ ret = some (.object n) ∧ (v = .null ∨ ∃ a, v = .ref a)))
    (body : ∀ (p : Program) (e : Env) (s : State) (m : MethodId) (args : Array Value) (below : List Frame) (meth : Method) (c : Code) (Q : State → Prop), Cx p l s m args meth c D n0 y.cls cc maxL → KX D n0 s s.heap →
      (∀ (pc : Nat) (ls : List (Option Value)), decode cc pc = .ok (match (r : Option Value) with | none => .return_ | some (.int _) => .ireturn | _ => .areturn, 1) → ZZ p l e (rmk f w) s m args below meth c D n0 127 maxL 0 0 Q σ' pc ls r.toList) →
      ZZ p l e (rmk f w) s m args below meth c D n0 127 maxL 0 0 Q σ 0 (ent av maxL) []) : HM l D n0 y cc maxL ret f w av σ r σ' := by
  refine Met.ofW (cc := cc) (maxL := maxL) (ret := ret) hy rfl ?_
  intro p e s m args below meth c s₁ B hml hv
  obtain ⟨rfl, hP, hK, hn0⟩ := hv
  have hts := atoms_spec (ws := Cond.code y cc maxL ret :: tb) B.pre
  have hC : Cx p l s m av.toArray meth c D n0 y.cls cc maxL := ⟨B.exec, B.bytes, hml, findClass_of_methodNamed B.named, fun w hw => hts w (List.mem_cons_of_mem _ hw), hK.1, hn0, B.notSynchronized⟩
  rw [lg_entry_eq]
  refine body p e s m _ below meth c _ hC hK ?_ s.heap [] _ hP va_S.rf (ent_lh hc hn)
  intro pc ls hd H locs lsA hP2 hS hl
  rcases hr with ⟨rfl, hr⟩ | ⟨v, ty, rfl, hr, hnn⟩ | ⟨v, nn, rfl, hr, hvv⟩
  · exact W.vret hC.1 hC.2.1 (B.returns.trans hr) (fun t ht hW => ⟨⟨rfl, by rw [ht]; exact hP2⟩, hS.F ht⟩) hS.2.2 hd hC.2.2.2.2.2.2.2
  · exact W.zret hC.1 hC.2.1 (B.returns.trans hr) hnn (fun t ht hW => ⟨⟨rfl, by rw [ht]; exact hP2⟩, hS.F ht⟩) hS.2.2 hd hC.2.2.2.2.2.2.2
  · have hd2 : decode cc pc = .ok (.areturn, 1) := by
      rcases hvv with rfl | ⟨a, rfl⟩ <;> exact hd
    exact W.aret hC.1 hC.2.1 (B.returns.trans hr) (Or.inl ⟨nn, rfl⟩) hvv (fun t ht hW => ⟨⟨rfl, by rw [ht]; exact hP2⟩, hS.F ht⟩) hS.2.2 hd2 hC.2.2.2.2.2.2.2
theorem HT.of {E : String} (hy : plainName y.cls = true) (hc : ∀ x ∈ av, x.category = 1) (hn : av.length ≤ maxL)
    (body : ∀ (p : Program) (e : Env) (s : State) (m : MethodId) (args : Array Value) (below : List Frame) (meth : Method) (c : Code), Cx p l s m args meth c D n0 y.cls cc maxL → KX D n0 s s.heap → (∀ x ∈ c.exceptionTable.toList, False) →
      ZZ p l e (rmx f w) s m args below meth c D n0 127 maxL 0 0 (vx_MQ below (fun _ _ _ _ => False) (XcT D n0 E σ) args s 1 6 (fun q => n0 ≤ q)) σ 0 (ent av maxL) []) : HT l D n0 y cc maxL ret f w av σ E := by
  refine vx_ofW (cc := cc) (maxL := maxL) (ret := ret) hy rfl ?_
  intro p e s m args below meth c s₁ B hml hxt hv
  obtain ⟨rfl, hP, hK, hn0⟩ := hv
  have hts := atoms_spec (ws := Cond.code y cc maxL ret :: tb) B.pre
  have hC : Cx p l s m av.toArray meth c D n0 y.cls cc maxL := ⟨B.exec, B.bytes, hml, findClass_of_methodNamed B.named, fun w hw => hts w (List.mem_cons_of_mem _ hw), hK.1, hn0, B.notSynchronized⟩
  rw [lg_entry_eq]
  exact body p e s m _ below meth c hC hK hxt s.heap [] _ hP va_S.rf (ent_lh hc hn)
end BODY
section CALLS

variable {p : Program} {l : Launch} {e : Env} {R : Room} {s : State} {m : MethodId} {args : Array Value} {below : List Frame} {meth : Method} {c : Code} {D : DD} {n0 N nL cells slots : Nat} {Q : State → Prop} {own : String} {cc : ByteArray} {σ σ1 : ST} {pc : Nat} {ls : List (Option Value)} {st : List Value}
variable {y : MethodName} {bytes : ByteArray} {maxL f w idx n : Nat} {ret : Option FieldType} {As : List Value} {r : Option Value} {E : String}
/-- a call's continuation, out of what the kit says of its run -/
theorem z_run (C : Cx p l s m args meth c D n0 own cc nL) {st0 rest : List Value} {a : Array Value} {H : Heap} {locs : List Loc} {lsA : Array Slot} (hS : va_S (fun q => n0 ≤ q) s.heap H locs) (hl : lh lsA nL ls)
    (hr : va_Run p l e R s m args below meth c H locs cells slots 0 0 (F0 m pc lsA st0) rest (QcM D n0 N r σ1 a) (fun q => n0 ≤ q))
    (kk : ZZ p l e R s m args below meth c D n0 N nL cells slots Q σ1 (pc + 3) ls (r.toList ++ rest)) : W p l e R s m args below meth c H locs cells slots Q (F0 m pc lsA st0) := by
  intro T hT X
  obtain ⟨v, st₀, t, T', L, h0, X', hL, e1, e2, ⟨⟨hv, hp⟩, hz, hk⟩, st⟩ := hr T hT X
  have hv2 : v = r := by injection hv
  subst hv2
  rw [h0] at hz hk
  obtain ⟨t2, a1, b1⟩ := kk T'.heap (locs ++ L) lsA (by rw [e1]; exact hp)
    ⟨Nat.le_trans hS.1 (by rw [e1]; exact hz), fun q h1 h2 => by rw [e1, hk q (Nat.lt_of_lt_of_le h1 hS.1) h2]; exact hS.2.1 q h1 h2, fun q hq => by
      rcases List.mem_append.mp hq with h | h
      · exact hS.2.2 q h
      · exact hL q h⟩ hl T' rfl X'
  exact ⟨t2, st t2 a1, b1⟩
def okV (own C : String) (idx : Nat) (y : MethodName) (bytes : ByteArray) (maxL : Nat) (ret : Option FieldType) (n : Nat) : Prop :=
  Cond.methodLink own idx y ∈ tb ∧ Cond.instanceMethod y ∈ tb ∧ Cond.selects C y y ∈ tb ∧ Cond.initialized C ∈ tb ∧ Cond.code y bytes maxL ret ∈ tb ∧ (y.cls = C ∧ y.cls ≠ "java/lang/invoke/MethodHandle" ∧ y.cls ≠ "java/lang/invoke/VarHandle" ∧ (parseMethodDescriptor y.desc).map (fun d => d.parameters.length) = some n)
def okS (own : String) (idx : Nat) (y : MethodName) (bytes : ByteArray) (maxL : Nat) (ret : Option FieldType) (n : Nat) : Prop :=
  Cond.methodLink own idx y ∈ tb ∧ Cond.static y ∈ tb ∧ Cond.initialized y.cls ∈ tb ∧ Cond.code y bytes maxL ret ∈ tb ∧ (y.cls ≠ "java/lang/invoke/MethodHandle" ∧ y.cls ≠ "java/lang/invoke/VarHandle" ∧ (parseMethodDescriptor y.desc).map (fun d => d.parameters.length) = some n)
theorem okV.cw {own C : String} {rm : Room} {mc ms : Nat} (h : okV own C idx y bytes maxL ret n) (hts : ∀ w ∈ tb, w.before args s = true) (hrc : rm.cells = mc) (hrs : rm.slots = ms) (hR : rm.frames + 1 ≤ R.frames ∧ 8 + (maxL + 11) + rm.locals ≤ R.locals) : CallW R s args own C idx y bytes maxL ret (Cond.code y bytes maxL ret :: tb) rm mc ms n := by
  obtain ⟨h1, h2, h3, h4, h5, h6⟩ := h
  refine cwV n hts (tb_goodIn fun w hw => ?_) rfl hrc hrs h6 hR
  unfold wsV at hw
  rcases List.mem_append.mp hw with h | h
  · simp only [List.mem_cons, List.not_mem_nil, or_false] at h
    rcases h with rfl | rfl | rfl | rfl <;> assumption
  · rcases List.mem_cons.mp h with rfl | h
    · exact h5
    · exact h
theorem okS.cw {own : String} {rm : Room} {mc ms : Nat} (h : okS own idx y bytes maxL ret n) (hts : ∀ w ∈ tb, w.before args s = true) (hrc : rm.cells = mc) (hrs : rm.slots = ms) (hR : rm.frames + 1 ≤ R.frames ∧ 8 + (maxL + 11) + rm.locals ≤ R.locals) : CallB R s args own idx y bytes maxL ret (Cond.code y bytes maxL ret :: tb) rm mc ms n ∧ (Cond.static y).before args s = true := by
  obtain ⟨h1, h2, h4, h5, h6⟩ := h
  refine ⟨callB_of n hts (tb_goodIn fun w hw => ?_) rfl hrc hrs (hts _ h4) (hts _ h1) h6 hR, hts _ h2⟩
  rcases List.mem_cons.mp hw with rfl | h
  · exact h5
  · exact h
/-- a virtual call (or of a private method) of an object of the world -/
theorem z_callV (C : Cx p l s m args meth c D n0 own cc nL) (K : KX D n0 s s.heap) {C0 : String} {k ci NF : Nat} {T : u_T} {fs : List Value} (ok : okV own C0 idx y bytes maxL ret n) (hM : HM l D n0 y bytes maxL ret f w (.ref (n0 + k) :: As) σ r σ1) (he : enc D n0 σ k = .inr (ci, fs)) (hk : k < 127) (hc : vwCl[ci]? = some (C0, T, NF)) (hn : As.length = n) (hR : f + 1 ≤ R.frames ∧ 8 + (maxL + 11) + w ≤ R.locals) (hfit : cells ≤ R.cells ∧ slots ≤ R.slots) (hW : (st.map fun v => v.category).sum ≤ 8) (hd : decode cc pc = .ok (.invokevirtual idx, 3)) {sk st1 : List Value} (hsk : sk = As.reverse ++ .ref (n0 + k) :: st) (hs1 : r.toList ++ st = st1)
    (kk : ZZ p l e R s m args below meth c D n0 127 nL cells slots Q σ1 (pc + 3) ls st1) : ZZ p l e R s m args below meth c D n0 127 nL cells slots Q σ pc ls sk := by
  subst hsk
  subst hs1
  intro H locs lsA hP hS hl
  refine z_run C hS hl (va_runV (As := As) (rest := st) ⟨C.1, C.2.1, C.2.2.1, C.2.2.2.1, C.2.2.2.2.1⟩ hM (ok.cw C.2.2.2.2.1 rfl rfl hR) ⟨PcW.blind, ?_, ?_⟩ rfl hn hl.1 rfl (lv_room hW) hd ⟨hfit.1, hfit.2⟩) kk
  · exact va_recv C.2.2.2.2.2.1 hP hc (q0 := k) (by rw [wl_get hk, he])
  · exact fun U hU hW => ⟨rfl, PcW.mk K C.2.2.2.2.2.2.1 hP hS hU hW⟩
theorem z_callS (C : Cx p l s m args meth c D n0 own cc nL) (K : KX D n0 s s.heap) (ok : okS own idx y bytes maxL ret n) (hM : HM l D n0 y bytes maxL ret f w As σ r σ1) (hn : As.length = n) (hR : f + 1 ≤ R.frames ∧ 8 + (maxL + 11) + w ≤ R.locals) (hfit : cells ≤ R.cells ∧ slots ≤ R.slots) (hW : (st.map fun v => v.category).sum ≤ 8) (hd : decode cc pc = .ok (.invokestatic idx, 3)) {sk st1 : List Value} (hsk : sk = As.reverse ++ st) (hs1 : r.toList ++ st = st1)
    (kk : ZZ p l e R s m args below meth c D n0 127 nL cells slots Q σ1 (pc + 3) ls st1) : ZZ p l e R s m args below meth c D n0 127 nL cells slots Q σ pc ls sk := by
  subst hsk
  subst hs1
  intro H locs lsA hP hS hl
  exact z_run C hS hl (va_runS (As := As) (rest := st) ⟨C.1, C.2.1, C.2.2.1, C.2.2.2.1, C.2.2.2.2.1⟩ hM (ok.cw C.2.2.2.2.1 rfl rfl hR) ⟨PcW.blind, fun U hU hW => ⟨rfl, PcW.mk K C.2.2.2.2.2.2.1 hP hS hU hW⟩⟩ rfl hn hl.1 rfl (lv_room hW) hd ⟨hfit.1, hfit.2⟩) kk
/-- a call that throws: what goes on over the frame -/
theorem z_callVT (C : Cx p l s m args meth c D n0 own cc nL) (K : KX D n0 s s.heap) {C0 : String} {k ci NF : Nat} {T : u_T} {fs : List Value} (ok : okV own C0 idx y bytes maxL ret n) (hM : HT l D n0 y bytes maxL ret f w (.ref (n0 + k) :: As) σ E) (he : enc D n0 σ k = .inr (ci, fs)) (hk : k < 127) (hc : vwCl[ci]? = some (C0, T, NF)) (hn : As.length = n) (hR : f + 1 ≤ R.frames ∧ 8 + (maxL + 11) + w ≤ R.locals) (hfit : cells + 1 ≤ R.cells ∧ slots + 6 ≤ R.slots) (hW : (st.map fun v => v.category).sum ≤ 8) (hd : decode cc pc = .ok (.invokevirtual idx, 3)) {sk : List Value} (hsk : sk = As.reverse ++ .ref (n0 + k) :: st)
    (kx : ∀ (H : Heap) (locs : List Loc) (lsA : Array Slot) (q9 : Addr) (ce : Cell), va_P D.1 vwCl (wl D n0 127 σ) H → va_S (fun q => n0 ≤ q) s.heap H locs → lh lsA nL ls → H[q9]? = some ce → ce.vm = .none → s.vm.findClass E = some ce.cls → vx_W p l e R s m args below meth c H locs (cells + 1) (slots + 6) Q (F0 m pc lsA st) q9) : ZZ p l e R s m args below meth c D n0 127 nL cells slots Q σ pc ls sk := by
  subst hsk
  intro H locs lsA hP hS hl T hT X
  rcases vx_runV (As := As) (rest := st) ⟨C.1, C.2.1, C.2.2.1, C.2.2.2.1, C.2.2.2.2.1⟩ hM (ok.cw C.2.2.2.2.1 rfl rfl hR) ⟨PcW.blind, va_recv C.2.2.2.2.2.1 hP hc (q0 := k) (by rw [wl_get hk, he]), fun U hU hW => ⟨rfl, PcW.mk K C.2.2.2.2.2.2.1 hP hS hU hW⟩⟩ rfl hn hl.1 rfl (lv_room hW) hd ⟨hfit.1, hfit.2⟩ T hT X with ⟨v, st₀, t, T', L, h0, X', hL, e1, e2, hF, st⟩ | ⟨q, st₀, t, T', L, E', ce, h0, X', hL, e1, e2, ⟨rfl, hp, hF⟩, hce, hcv, hcl, st⟩
  · exact hF.elim
  · obtain ⟨k1, k2, k3⟩ := vx_keep h0 e1 hS (fun q _ h => h) (fun q h => h) hL hF
    obtain ⟨t2, a1, b1⟩ := kx T'.heap (locs ++ L) lsA q ce (by rw [e1]; exact hp) k3 hl (by rw [e1]; exact hce) hcv hcl T' rfl X'
    exact ⟨t2, st.trans a1, b1⟩
/-- .. and it goes on to the caller -/
theorem z_out {σ0 : ST} {a0 : Array Value} (hxt : ∀ x ∈ c.exceptionTable.toList, False) (hlocks : meth.locks = false) {H : Heap} {locs : List Loc} {lsA : Array Slot} {q9 : Addr} {ce : Cell} (hP : va_P D.1 vwCl (wl D n0 127 σ) H) (hS : va_S (fun q => n0 ≤ q) s.heap H locs) (h1 : H[q9]? = some ce) (h2 : ce.vm = .none) (h3 : s.vm.findClass E = some ce.cls) :
    vx_W p l e R s m args below meth c H locs (0 + 1) (0 + 6) (vx_MQ below (fun _ _ _ _ => False) (XcT D n0 E σ) args s 1 6 (fun q => n0 ≤ q)) (F0 m pc lsA st) q9 := by
  exact vx_out (E := E) (fun x hx => (hxt x hx).elim) hlocks h1 h2 h3 (fun t ht hW => ⟨rfl, by rw [ht]; exact hP, hS.F ht⟩) hS.2.2 (Nat.le_refl _) (Nat.le_refl _)
/-- throw new E("text") -/
theorem z_throwS (C : Cx p l s m args meth c D n0 own cc nL) (K : KX D n0 s s.heap) (hfl : l.stackTraces = false) (hxt : ∀ x ∈ c.exceptionTable.toList, False) {σ0 : ST} {ik is ic : Nat} {text : String} (hE : E ∈ excs) (hfit : Bundle.fit E = true) (hk : Cond.classLink RX4 ik E ∈ tb) (hini : Cond.initialized E ∈ tb) (hown : own = RX4) (hstr : (is, text) ∈ strs) (hat1 : ∀ w ∈ (vx_atS RX4 ic E ["java/lang/RuntimeException", "java/lang/Exception"]).filter goodWord, w ∈ tb) (hat2 : ∀ w ∈ (vx_atS RX4 ic E ["java/lang/RuntimeException", "java/lang/Exception"]).filter (fun w => !goodWord w), w ∈ Cond.castable E E :: dcls)
    (hgood : ∀ w ∈ Cond.classLink RX4 ik E :: Cond.initialized E :: vx_atS RX4 ic E ["java/lang/RuntimeException", "java/lang/Exception"], vx_ot w = true)
    (d0 : decode cc pc = .ok (.new ik, 3)) (d3 : decode cc (pc + 3) = .ok (.dup, 1)) (d4 : decode cc (pc + 4) = .ok (.ldc is, 2)) (d6 : decode cc (pc + 6) = .ok (.invokespecial ic, 3)) (d9 : decode cc (pc + 9) = .ok (.athrow, 1)) (hR : 5 < R.frames ∧ 82 ≤ R.locals ∧ 1 ≤ R.cells ∧ 6 ≤ R.slots) :
    ZZ p l e R s m args below meth c D n0 127 nL 0 0 (vx_MQ below (fun _ _ _ _ => False) (XcT D n0 E σ) args s 1 6 (fun q => n0 ≤ q)) σ pc ls [] := by
  subst hown
  intro H locs lsA hP hS hl
  obtain ⟨sa, hsa⟩ := K.2.1 _ hstr
  refine vx_throwS C.1 C.2.1 hfl (names := ["java/lang/RuntimeException", "java/lang/Exception"]) C.2.2.2.1 hfit (by decide +kernel) (C.2.2.2.2.1 _ hk) (C.2.2.2.2.1 _ hini) hsa (vx_hat (fun w hw => C.2.2.2.2.1 _ (hat1 w hw)) hat2 (fun w hw => ?_)) hgood K.2.2.2.2.2.1 K.2.2.2.2.2.2 hS (hl.1.trans C.2.2.1.symm) d0 d3 d4 d6 d9 (fun x hx => (hxt x hx).elim) hR.1 hR.2.1 (by simpa using hR.2.2.1) (by simpa using hR.2.2.2) C.2.2.2.2.2.2.2 (fun t hW hz hq => ?_) hS.2.2 (Nat.le_refl _) (Nat.le_refl _)
  · rcases List.mem_cons.mp hw with rfl | hw
    · exact va_any rfl (K.2.2.1 E hE)
    · have h9 := K.2.2.2.1 w hw
      simp only [dcls, List.mem_cons, List.not_mem_nil, or_false] at hw
      rcases hw with rfl | rfl | rfl <;> exact va_any rfl h9
  · refine ⟨rfl, hP.kept (fun k q hk => hq q.1 (hP k q hk).lt), Nat.le_trans hS.1 hz, fun q h1 h2 => ?_⟩
    rw [hq q (Nat.lt_of_lt_of_le h1 hS.1)]
    exact hS.2.1 q h1 h2
/-- the same by a wide ldc -/
theorem z_throwW (C : Cx p l s m args meth c D n0 own cc nL) (K : KX D n0 s s.heap) (hfl : l.stackTraces = false) (hxt : ∀ x ∈ c.exceptionTable.toList, False) {σ0 : ST} {ik is ic : Nat} {text : String} (hE : E ∈ excs) (hfit : Bundle.fit E = true) (hk : Cond.classLink RX4 ik E ∈ tb) (hini : Cond.initialized E ∈ tb) (hown : own = RX4) (hstr : (is, text) ∈ strs) (hat1 : ∀ w ∈ (vx_atS RX4 ic E ["java/lang/RuntimeException", "java/lang/Exception"]).filter goodWord, w ∈ tb) (hat2 : ∀ w ∈ (vx_atS RX4 ic E ["java/lang/RuntimeException", "java/lang/Exception"]).filter (fun w => !goodWord w), w ∈ Cond.castable E E :: dcls)
    (hgood : ∀ w ∈ Cond.classLink RX4 ik E :: Cond.initialized E :: vx_atS RX4 ic E ["java/lang/RuntimeException", "java/lang/Exception"], vx_ot w = true)
    (d0 : decode cc pc = .ok (.new ik, 3)) (d3 : decode cc (pc + 3) = .ok (.dup, 1)) (d4 : decode cc (pc + 4) = .ok (.ldc_w is, 3)) (d6 : decode cc (pc + 7) = .ok (.invokespecial ic, 3)) (d9 : decode cc (pc + 10) = .ok (.athrow, 1)) (hR : 5 < R.frames ∧ 82 ≤ R.locals ∧ 1 ≤ R.cells ∧ 6 ≤ R.slots) :
    ZZ p l e R s m args below meth c D n0 127 nL 0 0 (vx_MQ below (fun _ _ _ _ => False) (XcT D n0 E σ) args s 1 6 (fun q => n0 ≤ q)) σ pc ls [] := by
  subst hown
  intro H locs lsA hP hS hl
  obtain ⟨sa, hsa⟩ := K.2.1 _ hstr
  refine vx_throwSW C.1 C.2.1 hfl (names := ["java/lang/RuntimeException", "java/lang/Exception"]) C.2.2.2.1 hfit (by decide +kernel) (C.2.2.2.2.1 _ hk) (C.2.2.2.2.1 _ hini) hsa (vx_hat (fun w hw => C.2.2.2.2.1 _ (hat1 w hw)) hat2 (fun w hw => ?_)) hgood K.2.2.2.2.2.1 K.2.2.2.2.2.2 hS (hl.1.trans C.2.2.1.symm) d0 d3 d4 d6 d9 (fun x hx => (hxt x hx).elim) hR.1 hR.2.1 (by simpa using hR.2.2.1) (by simpa using hR.2.2.2) C.2.2.2.2.2.2.2 (fun t hW hz hq => ?_) hS.2.2 (Nat.le_refl _) (Nat.le_refl _)
  · rcases List.mem_cons.mp hw with rfl | hw
    · exact va_any rfl (K.2.2.1 E hE)
    · have h9 := K.2.2.2.1 w hw
      simp only [dcls, List.mem_cons, List.not_mem_nil, or_false] at hw
      rcases hw with rfl | rfl | rfl <;> exact va_any rfl h9
  · refine ⟨rfl, hP.kept (fun k q hk => hq q.1 (hP k q hk).lt), Nat.le_trans hS.1 hz, fun q h1 h2 => ?_⟩
    rw [hq q (Nat.lt_of_lt_of_le h1 hS.1)]
    exact hS.2.1 q h1 h2
/-- ends -/
theorem z_endI {v x : Int32} (h : ZZ p l e R s m args below meth c D n0 N nL cells slots Q σ1 pc ls (some (Value.int x)).toList) (hv : v = x) (hσ : σ = σ1) : ZZ p l e R s m args below meth c D n0 N nL cells slots Q σ pc ls [.int v] := by subst hv; subst hσ; exact h
theorem z_endA {v x : Value} (h : ZZ p l e R s m args below meth c D n0 N nL cells slots Q σ1 pc ls (some x).toList) (hv : v = x) (hσ : σ = σ1) : ZZ p l e R s m args below meth c D n0 N nL cells slots Q σ pc ls [v] := by subst hv; subst hσ; exact h
theorem z_endV (h : ZZ p l e R s m args below meth c D n0 N nL cells slots Q σ1 pc ls (none : Option Value).toList) (hσ : σ = σ1) : ZZ p l e R s m args below meth c D n0 N nL cells slots Q σ pc ls [] := by subst hσ; exact h
/-- the same place, seen with fewer locals and by equal names -/
theorem z_cast {ls' : List (Option Value)} {st' : List Value} (h : ZZ p l e R s m args below meth c D n0 N nL cells slots Q σ1 pc ls' st') (hσ : σ = σ1) (hl : lle ls' ls) (hst : st = st') : ZZ p l e R s m args below meth c D n0 N nL cells slots Q σ pc ls st := by subst hst; subst hσ; exact z_fewer hl h
theorem so_int {x y : Int32} (h : x = y) : (some (Value.int x) : Option Value) = some (Value.int y) := by rw [h]
end CALLS
theorem cv_lt {a b : Nat} (ha : a < 2 ^ 31) (hb : b < 2 ^ 31) (h : nI a < nI b) : a < b := (nI_ltI ha hb).mp h
theorem cv_nlt {a b : Nat} (ha : a < 2 ^ 31) (hb : b < 2 ^ 31) (h : ¬ nI a < nI b) : b ≤ a := Nat.not_lt.mp fun q => h ((nI_ltI ha hb).mpr q)
theorem cv_le {a b : Nat} (ha : a < 2 ^ 31) (hb : b < 2 ^ 31) (h : nI a ≤ nI b) : a ≤ b := (nI_leI ha hb).mp h
theorem cv_nle {a b : Nat} (ha : a < 2 ^ 31) (hb : b < 2 ^ 31) (h : ¬ nI a ≤ nI b) : b < a := Nat.not_le.mp fun q => h ((nI_leI ha hb).mpr q)
theorem cv_eq {a b : Nat} (ha : a < 2 ^ 31) (hb : b < 2 ^ 31) (h : nI a = nI b) : a = b := (nI_eq ha hb).mp h
theorem cv_ne {a b : Nat} (h : ¬ nI a = nI b) : a ≠ b := fun q => h (by rw [q])
theorem cv_rem {a d : Nat} (ha : a < 2 ^ 31) (h0 : 0 < d) (hd : d < 2 ^ 31) : nI a - nI a / nI d * nI d = nI (a % d) := pk_rem ha h0 hd
theorem cv_div {a d : Nat} (ha : a < 2 ^ 31) (h0 : 0 < d) (hd : d < 2 ^ 31) : nI a / nI d = nI (a / d) := pk_div ha h0 hd
theorem cv_add (a b : Nat) : nI a + nI b = nI (a + b) := nI_add a b
theorem cv_mul (a b : Nat) : nI a * nI b = nI (a * b) := pk_mul a b
theorem cv_sub {a b : Nat} (h : b ≤ a) : nI a - nI b = nI (a - b) := pk_sub h
theorem cv_inc (a k : Nat) : nI a + Int32.ofInt (k : Int) = nI (a + k) := by
  have h : Int32.ofInt (k : Int) = nI k := rfl
  rw [h, nI_add]
/-- a loop that counts up -/
theorem z_for {P : Nat → Prop} (n : Nat) (hend : P n) (hstep : ∀ i, i < n → P (i + 1) → P i) : ∀ i, i ≤ n → P i := by
  have h : ∀ d i, i + d = n → P i := by
    intro d
    induction d with
    | zero => intro i hi; rw [Nat.add_zero] at hi; rw [hi]; exact hend
    | succ d ih => intro i hi; exact hstep i (by omega) (ih (i + 1) (by omega))
  intro i hi
  exact h (n - i) i (by omega)

