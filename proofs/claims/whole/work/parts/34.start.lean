/-! THE CLAIM OUT OF ONE WALK OF THE LAW'S BODY. Your part is whole_start (and what it stands on); all else here is the same for every law, but numbers. -/
def R_law : String := "ThinExtentsLaw"
def lw_P (b : Addr) (xs : List Int32) (args : Array Value) (s : State) : Prop := args = #[.ref b] ∧ s.IntsAt b xs ∧ xs.length ≤ 256 ∧ (Jvm.Cond.and given_1 narrow_1).before args s = true
def lw_Q (_ : Array Value) (s : State) (o : Outcome) (t : State) : Prop := o = .returned (some (.int 1)) ∧ Framed s o t [] 600128 7301098
def lw_Z (below : List Frame) (a : Array Value) (s : State) : State → Prop := fun t => ∃ o, t.status = .running ∧ Ended t below o ∧ lw_Q a s o t
/-- the law's own end, with 1 on the stack, nothing written that was there before, its room as the claim has it -/
theorem lw_ret {p : Program} {l : Launch} {e : Env} {s : State} {m : MethodId} {below : List Frame} {meth : Method} {c : Code} {b : Nat} (hx : p.tables.exec = Jvm.exec) (hb : c.code = code) (hr : meth.sig.returnType = ret) (hlocks : meth.locks = false) {pc : Nat} {H : Heap} {ls : Array Slot} (hdg : decode code pc = .ok (.ireturn, 1)) : W p l e room_1 s m #[Value.ref b] below meth c H [] 600128 7301098 (lw_Z below #[Value.ref b] s) (F0 m pc ls [.int 1]) := by
  intro T hT X
  obtain ⟨fs, hret, hrun, hended, hW, hframe⟩ := X.leave (v := some (.int 1)) (hlocks := hlocks) (fun h => by rw [hr] at h; cases h)
  have hmeth' : T.vm.method? m = some meth := X.method'
  refine ⟨T.setFrames fs, ?_, .returned (some (.int 1)), hrun, hended, rfl, ⟨_, rfl⟩, hW, hframe⟩
  jvm_step X.here [X.here.top, hx, hb, hdg, hmeth', hr, ret, narrow_b1]
  (try refine ⟨rfl, ?_⟩); (try refine ⟨rfl, ?_⟩)
  first | (intro acts; rw [hret _ acts rfl rfl rfl]) | rw [hret _ _ rfl rfl rfl]
  exact Steps.refl _
/-- what holds at the law's entry: the machine, the code, the tables' words (any of lw_tbl by 'hts w (by decide +kernel)'), the script of L ints xs at the cell b, what the Statement gives of the start (any of its parts by flat_of_before) -/
def lw_At (p : Program) (s : State) (m : MethodId) (meth : Method) (c : Code) (b L : Nat) (xs : Nat → Int32) : Prop :=
  p.tables.exec = Jvm.exec ∧ c.code = code ∧ meth.sig.returnType = ret ∧ c.maxLocals = 7 ∧ s.vm.findClass R_law = some m.cls ∧ (∀ w ∈ lw_tbl, w.before #[Value.ref b] s = true) ∧ va_X b L xs s s.heap ∧ b < s.heap.size ∧ meth.locks = false ∧ (Jvm.Cond.and given_1 narrow_1).before #[Value.ref b] s = true
set_option maxHeartbeats 4000000 in
set_option maxRecDepth 100000 in
/-- what the tables and the start give -/
theorem KX_start {p : Program} {s : State} {m : MethodId} {meth : Method} {c : Code} {b L : Nat} {xs : Nat → Int32} (C0 : lw_At p s m meth c b L xs) : ∃ D : DD, KX D s.heap.size s s.heap := by
  obtain ⟨hx, hb, hr, hml, hown, hts, hX, hbl, hlocks, hgv⟩ := id C0
  have hts' : ∀ w ∈ tb, w.before #[Value.ref b] s = true := fun w hw => hts w (tb_in hw)
  have hfl := flat_of_before _ hgv
  obtain ⟨c0, i0, k0⟩ := u_known (n := 9) hts' in_X0 (hts' _ wi_135)
  obtain ⟨c1, i1, k1⟩ := u_known (n := 4) hts' in_X1 (hts' _ wi_172)
  obtain ⟨c2, i2, k2⟩ := u_known (n := 4) hts' in_X2 (hts' _ wi_69)
  obtain ⟨c3, i3, k3⟩ := u_known (n := 7) hts' in_X3 (hts' _ wi_76)
  obtain ⟨c4, i4, k4⟩ := u_known (n := 13) hts' in_X4 (hts' _ wi_61)
  obtain ⟨c5, i5, k5⟩ := u_known (n := 27) hts' in_X5 (hts' _ wi_753)
  obtain ⟨aI, kI, cI, fI, hI, jI⟩ := Cond.arrayClass_spec (hts' _ wi_118)
  obtain ⟨aZ, kZ, cZ, fZ, hZ, jZ⟩ := Cond.arrayClass_spec (hts' _ wi_840)
  obtain ⟨aJ, kJ, cJ, fJ, hJ, jJ⟩ := Cond.arrayClass_spec (hts' _ wi_1046)
  obtain ⟨comp, aV, kV, v1, v2, v3, v4, v5⟩ := Cond.arrayOver_spec (hts (.arrayOver (.object "ThinExtents$Volume")) (List.mem_of_getElem? (i := 75) (by decide +kernel)))
  have hst1 : ∀ q ∈ strs, Cond.stringRef RX4 q.1 q.2 ∈ lw_tbl := by decide +kernel
  have hst2 : ∀ q ∈ strs, Cond.exactly (.string RX4 q.1) "java/lang/String" ∈ flatC (Jvm.Cond.and given_1 narrow_1) := by decide +kernel
  have hca : ∀ E ∈ excs, Cond.castable E E ∈ lw_tbl := by decide +kernel
  have hdc : ∀ w ∈ dcls, w ∈ lw_tbl ∧ w.onTables = true := by decide +kernel
  have hno : ∀ q ∈ nocs, Cond.not (.castable q.1 q.2) ∈ flatC (Jvm.Cond.and given_1 narrow_1) := by decide +kernel
  refine ⟨((fun k => if k = 0 then c0 else if k = 1 then c1 else if k = 2 then c2 else if k = 3 then c3 else if k = 4 then c4 else c5, fun k => if k = 0 then i0 else if k = 1 then i1 else if k = 2 then i2 else if k = 3 then i3 else if k = 4 then i4 else i5), (aI, aZ, aV, aJ)), ⟨fun k q hq => ?_, fun k q hq => ?_⟩, fun q hq => ?_, fun E hE => va_Nw.of rfl (hts _ (hca E hE)), fun w hw => va_Nw.of (hdc w hw).2 (hts _ (hdc w hw).1), fun q hq => va_Nc.of (hfl _ (hno q hq)),
    vx_Zqof (hts _ (List.mem_of_getElem? (i := 406) (by decide +kernel))) (hts _ (by decide +kernel)) (hfl _ (by decide +kernel)) (fun a ha => Nat.not_le.mpr ha), vx_Zqof (hts _ (List.mem_of_getElem? (i := 408) (by decide +kernel))) (hts _ (by decide +kernel)) (hfl _ (by decide +kernel)) (fun a ha => Nat.not_le.mpr ha)⟩
  · match k, hq with
    | 0, hq => cases hq; exact k0
    | 1, hq => cases hq; exact k1
    | 2, hq => cases hq; exact k2
    | 3, hq => cases hq; exact k3
    | 4, hq => cases hq; exact k4
    | 5, hq => cases hq; exact k5
    | k + 6, hq => simp [vwCl] at hq
  · match k, hq with
    | 0, hq => cases hq; exact ⟨fun n z => ⟨fun k h => (by cases h), kI, hI, cI, jI⟩, fI⟩
    | 1, hq => cases hq; exact ⟨fun n z => ⟨fun k h => (by cases h), kZ, hZ, cZ, jZ⟩, fZ⟩
    | 2, hq => cases hq; exact ⟨fun n z => ⟨fun k h => (by cases h), kV, v3, comp, v4⟩, kV, comp, v3, v4, v1, v5⟩
    | 3, hq => cases hq; exact ⟨fun n z => ⟨fun k h => (by cases h), kJ, hJ, cJ, jJ⟩, fJ⟩
    | k + 4, hq => simp [tyl] at hq
  · obtain ⟨a, c9, cell, k, q1, -⟩ := Cond.exactly_spec (hfl _ (hst2 q hq))
    exact ⟨a, vk_R.of (hts _ (hst1 q hq)) q1⟩
section START
variable {p : Program} {l : Launch} {e : Env} {R : Room} {s : State} {m : MethodId} {args : Array Value} {below : List Frame} {meth : Method} {c : Code} {D : DD} {n0 nL cells slots : Nat} {Q : State → Prop} {EE : Nat → va_E} {pc : Nat} {ls : List (Option Value)} {st : List Value}
theorem k_zz (h : ZZ p l e R s m args below meth c D n0 127 nL cells slots Q (κz, μz, 0) pc ls st) (hE : ∀ j, j < 127 → EE j = W1 D n0 j) : ZE p l e R s m args below meth c D n0 127 nL cells slots Q EE pc ls st := fun H locs lsA hP hS hl => h H locs lsA (conv (by rw [← wg_cg hE]; exact hP)) hS hl
theorem k_istore {own : String} {cc : ByteArray} {N : Nat} (C : Cx p l s m args meth c D n0 own cc nL) {i : Nat} {x : Int32} {ls' : List (Option Value)} (hn : (i : Nat) < nL) (hl' : ls.set i (some (.int x)) = ls') (hd : decode cc pc = .ok (.istore i, 2)) (kk : ZE p l e R s m args below meth c D n0 N nL cells slots Q EE (pc + 2) ls' (st)) : ZE p l e R s m args below meth c D n0 N nL cells slots Q EE pc ls (.int x :: st) := fun H locs lsA hP hS hl => lv_istore C.1 C.2.1 hd hl.has hn rfl (fun lsB hB => kk H locs lsB hP hS (hl' ▸ hl.set rfl hB))
end START
set_option maxHeartbeats 4000000 in
set_option maxRecDepth 100000 in
/-- YOUR PART: from the entry, for every script of at most 256 ints, the law comes to its end with true -/
theorem whole_start {p : Program} {e : Env} {s : State} {m : MethodId} {below : List Frame} {meth : Method} {c : Code} (l : Launch) (hflags : l.flags = flags0) {b L : Nat} {xs : Nat → Int32} (hL : L ≤ 256) (C0 : lw_At p s m meth c b L xs) : W p l e room_1 s m #[Value.ref b] below meth c s.heap [] 0 0 (lw_Z below #[Value.ref b] s) (entryFrame m ([Value.ref b] : List Value).toArray 7) := by
  obtain ⟨hx, hb, hr, hml, hown, hts, hX, hbl, hlocks, hgv⟩ := id C0
  obtain ⟨D, K⟩ := KX_start C0
  have hfl : l.stackTraces = false := by unfold Launch.stackTraces; rw [hflags]; decide
  have hts' : ∀ w ∈ tb, w.before #[Value.ref b] s = true := fun w hw => hts w (tb_in hw)
  have C : Cx p l s m #[Value.ref b] meth c D s.heap.size RL cL_law 7 := ⟨hx, hb, hml, hown, hts', K.1, Nat.le_refl _, hlocks⟩
  have hAO : va_AO "ThinExtents$Volume" s := va_AO.of (hts (.arrayOver (.object "ThinExtents$Volume")) (List.mem_of_getElem? (i := 75) (by decide +kernel)))
  have hbA : ¬ s.heap.size ≤ b := Nat.not_le.mpr hbl
  have hsz : s.heap.size = s.heap.size + 0 := rfl
  have hend : ∀ (cs ss : Nat) (σ : ST) (i : Int32), cs ≤ 2000 → ss ≤ 30000 → ZZ p l e room_1 s m #[Value.ref b] below meth c D s.heap.size 127 7 cs ss (lw_Z below #[Value.ref b] s) σ 1721 (lawL b s.heap.size i none none) [] := by
    intro cs ss σ i h1 h2
    refine z_iconst (v := 1) C (by decide +kernel) dL_law_1721 ?_
    intro H locs lsA hP hS hl
    refine va_forget (fun q hq => hS.2.2 q hq) ?_
    refine W.widen (k := 600128) (n := 7301098) (by omega) (by omega) ?_
    exact lw_ret hx hb hr hlocks dL_law_1722
  rw [lg_entry_eq]
  have main : ∀ n0, n0 = s.heap.size → ZE p l e room_1 s m #[Value.ref b] below meth c D s.heap.size 0 7 0 0 (lw_Z below #[Value.ref b] s) (fun _ => iA D 0) 0 (ent [.ref b] 7) [] := by
    intro n0 hn0
    rw [← hn0] at hsz hend hbA C K ⊢
    show ZE p l e room_1 s m #[Value.ref b] below meth c D n0 0 7 0 0 (lw_Z below #[Value.ref b] s) (fun _ => iA D 0) 0 [some (.ref b), none, none, none, none, none, none] []
    refine k_new C (N0 := 0) (ci := 4) (fs := [.null, .null, .null, .null, .null, .null, .int 0, .int 0, .int 0, .int 0, .int 0, .int 0, .int 0]) (NF := 13) tyX4 (Or.inr ⟨rfl, rfl⟩) hn0.symm rfl in_X4 tyX4_ok wi_60 wi_61 wi_46 rfl (fun j hj => by rcases (show j = 0 ∨ j = 1 ∨ j = 2 ∨ j = 3 ∨ j = 4 ∨ j = 5 ∨ j = 6 ∨ j = 7 ∨ j = 8 ∨ j = 9 ∨ j = 10 ∨ j = 11 ∨ j = 12 by omega) with rfl | rfl | rfl | rfl | rfl | rfl | rfl | rfl | rfl | rfl | rfl | rfl | rfl <;> rfl) (Nat.le_of_ble_eq_true rfl) (Nat.le_of_ble_eq_true rfl) dL_law_0 ?_
    refine k_dup C rfl dL_law_3 ?_
    refine k_init C (N0 := 0) (n := 0) (K0 := 0) (As := []) (st := [.ref (n0 + 0)]) hAO hn0.symm rfl (i_X4 l D (n0 + 0)) upE_self wi_46 wi_62 wi_63 wi_64 rfl (by decide +kernel) rfl ⟨Nat.le_of_ble_eq_true rfl, Nat.le_of_ble_eq_true rfl⟩ ⟨Nat.le_of_ble_eq_true rfl, Nat.le_of_ble_eq_true rfl⟩ (by simp [Value.category]) dL_law_4 rfl ?_
    refine k_astore_n (ls' := [some (.ref b), some (.ref (n0 + 0)), none, none, none, none, none]) C (by decide) rfl dL_law_7 ?_
    refine k_new C (N0 := 0) (ci := 5) (fs := [.int 0, .null, .null, .null, .null, .null, .null, .null, .int 0, .int 0, .null, .null, .int 0, .int 0, .int 0, .int 0, .int 0, .int 0, .int 0, .int 0, .int 0, .int 0, .int 0, .int 0, .null, .null, .null]) (NF := 27) tyX5 (Or.inl (by decide)) hn0.symm rfl in_X5 tyX5_ok wi_752 wi_753 wi_52 rfl (fun j hj => by rcases (show j = 0 ∨ j = 1 ∨ j = 2 ∨ j = 3 ∨ j = 4 ∨ j = 5 ∨ j = 6 ∨ j = 7 ∨ j = 8 ∨ j = 9 ∨ j = 10 ∨ j = 11 ∨ j = 12 ∨ j = 13 ∨ j = 14 ∨ j = 15 ∨ j = 16 ∨ j = 17 ∨ j = 18 ∨ j = 19 ∨ j = 20 ∨ j = 21 ∨ j = 22 ∨ j = 23 ∨ j = 24 ∨ j = 25 ∨ j = 26 by omega) with rfl | rfl | rfl | rfl | rfl | rfl | rfl | rfl | rfl | rfl | rfl | rfl | rfl | rfl | rfl | rfl | rfl | rfl | rfl | rfl | rfl | rfl | rfl | rfl | rfl | rfl | rfl <;> rfl) (Nat.le_of_ble_eq_true rfl) (Nat.le_of_ble_eq_true rfl) dL_law_8 ?_
    refine k_dup C rfl dL_law_11 ?_
    refine k_init C (N0 := 0) (n := 0) (K0 := 113) (As := []) (st := [.ref (n0 + 113)]) hAO hn0.symm rfl (i_X5 l D (n0 + 113)) upE_self wi_52 wi_754 wi_755 wi_756 rfl (by decide +kernel) rfl ⟨Nat.le_of_ble_eq_true rfl, Nat.le_of_ble_eq_true rfl⟩ ⟨Nat.le_of_ble_eq_true rfl, Nat.le_of_ble_eq_true rfl⟩ (by simp [Value.category]) dL_law_12 rfl ?_
    refine k_astore_n (ls' := [some (.ref b), some (.ref (n0 + 0)), some (.ref (n0 + 113)), none, none, none, none]) C (by decide) rfl dL_law_15 ?_
    refine k_iconst (v := 1) C (by decide +kernel) dL_law_16 ?_
    refine k_newl C (N0 := 0) (n' := 1) (by decide) hn0.symm rfl rfl (by decide) wi_1046 (Nat.le_of_ble_eq_true rfl) (Nat.le_of_ble_eq_true rfl) dL_law_17 ?_
    refine k_astore_n (ls' := [some (.ref b), some (.ref (n0 + 0)), some (.ref (n0 + 113)), some (.ref (n0 + 126)), none, none, none]) C (by decide) rfl dL_law_19 ?_
    refine k_iconst (v := 0) C (by decide +kernel) dL_law_20 ?_
    refine k_istore (ls' := [some (.ref b), some (.ref (n0 + 0)), some (.ref (n0 + 113)), some (.ref (n0 + 126)), some (.int 0), none, none]) C (by decide) rfl dL_law_21 ?_
    have hs : 5957 ≤ 20000 := by decide
    refine k_zz (z_cast (law_loop (c0 := 127) (s0 := 5957) hfl C K hX hbl hbA hL (by decide) hs hend 64 0 (by omega) (by omega) κz μz 0 RO_z) rfl ⟨rfl, rfl, rfl, rfl, rfl, trivial⟩ rfl) (fun j hj => ?_)
    unfold W1
    simp only [upE, appE]
    by_cases h1 : j < 113
    · simp (config := { decide := true }) only [if_pos h1, if_neg (show ¬ j = 126 by omega), if_neg (show ¬ j = 113 by omega), Nat.zero_add, Nat.not_lt_zero, if_false, Nat.sub_zero, Nat.add_zero]
    · by_cases h2 : j < 126
      · simp (config := { decide := true }) only [if_neg h1, if_pos h2, if_neg (show ¬ j = 126 by omega), Nat.zero_add]
      · obtain rfl : j = 126 := by omega
        rfl
  exact main _ rfl s.heap [] _ (fun k q h => by simp [wg] at h) va_S.rf (ent_lh (by simp [Value.category]) (by simp))
