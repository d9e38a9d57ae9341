/-! the law's own frame -/
def lawL (b n0 : Nat) (i : Int32) (u v : Option Value) : List (Option Value) := [some (.ref b), some (.ref (n0 + 0)), some (.ref (n0 + 113)), some (.ref (n0 + 126)), some (.int i), u, v]
theorem lawL_le {b n0 : Nat} {i : Int32} {u v : Option Value} : lle (lawL b n0 i none none) (lawL b n0 i u v) := ⟨rfl, rfl, rfl, rfl, rfl, trivial⟩
section LAW0
variable {p : Program} {l : Launch} {e : Env} {R : Room} {s : State} {m : MethodId} {args : Array Value} {below : List Frame} {meth : Method} {c : Code} {D : DD} {n0 N nL cells slots : Nat} {Q : State → Prop} {own : String} {cc : ByteArray} {σ σ1 : ST} {pc : Nat} {ls : List (Option Value)} {st : List Value}
theorem z_slen (C : Cx p l s m args meth c D n0 own cc nL) {b L : Nat} {xs : Nat → Int32} (hX : va_X b L xs s s.heap) (hbl : b < s.heap.size) (hbA : ¬ n0 ≤ b) (hd : decode cc pc = .ok (.arraylength, 1)) (kk : ZZ p l e R s m args below meth c D n0 N nL cells slots Q σ (pc + 1) ls (.int (nI L) :: st)) : ZZ p l e R s m args below meth c D n0 N nL cells slots Q σ pc ls (.ref b :: st) := fun H locs lsA hP hS hl => va_slen (A := fun q => n0 ≤ q) C.1 C.2.1 hX hbl hbA hS hd (kk H locs lsA hP hS hl)
theorem z_sld (C : Cx p l s m args meth c D n0 own cc nL) {b L : Nat} {xs : Nat → Int32} (hX : va_X b L xs s s.heap) (hbl : b < s.heap.size) (hbA : ¬ n0 ≤ b) {i : Int32} (j : Nat) (hij : i = nI j) (hj : j < L) (hL : L < 2 ^ 31) (hd : decode cc pc = .ok (.iaload, 1)) (kk : ZZ p l e R s m args below meth c D n0 N nL cells slots Q σ (pc + 1) ls (.int (xs j) :: st)) : ZZ p l e R s m args below meth c D n0 N nL cells slots Q σ pc ls (.int i :: .ref b :: st) := by
  subst hij
  intro H locs lsA hP hS hl
  refine va_sld (A := fun q => n0 ≤ q) C.1 C.2.1 hX hbl hbA hS (vp_in_nI hj hL) hd ?_
  rw [nI_clamp (Nat.lt_trans hj hL)]
  exact kk H locs lsA hP hS hl
theorem z_lcmp (C : Cx p l s m args meth c D n0 own cc nL) {x y : Int64} (hd : decode cc pc = .ok (.lcmp, 1)) (kk : ZZ p l e R s m args below meth c D n0 N nL cells slots Q σ (pc + 1) ls (.int (lg_cmp x y) :: st)) : ZZ p l e R s m args below meth c D n0 N nL cells slots Q σ pc ls (.long y :: .long x :: st) := fun H locs lsA hP hS hl => W.lcmp C.1 C.2.1 hd (kk H locs lsA hP hS hl)
theorem z_callHW (C : Cx p l s m args meth c D n0 own cc nL) (K : KX D n0 s s.heap) {y : MethodName} {bytes : ByteArray} {maxL idx n : Nat} {hh : List (Nat × Nat × Nat × Nat)} {As : List Value} {k : Int32} (hM : HW l D n0 y bytes maxL hh As σ k σ1) (hlink : Cond.methodLink own idx y ∈ tb) (hstat : Cond.static y ∈ tb) (hini : Cond.initialized y.cls ∈ tb) (hcode : Cond.codeWith y bytes maxL (some .int) hh ∈ tb)
    (hd1 : y.cls ≠ "java/lang/invoke/MethodHandle" ∧ y.cls ≠ "java/lang/invoke/VarHandle" ∧ (parseMethodDescriptor y.desc).map (fun d => d.parameters.length) = some n) (hn : As.length = n) (hR : 10 ≤ R.frames ∧ 8 + (maxL + 11) + 300 ≤ R.locals) (hfit : cells + 1 ≤ R.cells ∧ slots + 6 ≤ R.slots) (hW : (st.map fun v => v.category).sum ≤ 8) (hd : decode cc pc = .ok (.invokestatic idx, 3)) {sk : List Value} (hsk : sk = As.reverse ++ st)
    (kk : ZZ p l e R s m args below meth c D n0 127 nL (cells + 1) (slots + 6) Q σ1 (pc + 3) ls (.int k :: st)) : ZZ p l e R s m args below meth c D n0 127 nL cells slots Q σ pc ls sk := by
  subst hsk
  intro H locs lsA hP hS hl T hT X
  have cw : vx_CSW R s args own idx y bytes maxL (some .int) hh (Cond.codeWith y bytes maxL (some .int) hh :: tb) (rmx 9 300) 1 6 n := by
    refine vx_cwSW (Ts := tb) n C.2.2.2.2.1 (tb_goodIn fun w hw => ?_) rfl rfl rfl hd1 hR
    unfold va_wsS at hw
    rcases List.mem_append.mp hw with h | h
    · simp only [List.mem_cons, List.not_mem_nil, or_false] at h
      rcases h with rfl | rfl | rfl <;> assumption
    · rcases List.mem_cons.mp h with rfl | h
      · exact hcode
      · exact h
  rcases vx_runSX (As := As) (rest := st) ⟨C.1, C.2.1, C.2.2.1, C.2.2.2.1, C.2.2.2.2.1⟩ hM cw ⟨PcW.blind, fun U hU hW => ⟨rfl, PcW.mk K C.2.2.2.2.2.2.1 hP hS hU hW⟩⟩ rfl hn hl.1 rfl (lv_room hW) hd hfit T hT X with ⟨v, st₀, t, T', L, h0, X', hL, e1, e2, ⟨⟨hv, hp⟩, hz, hk⟩, stp⟩ | ⟨q, st₀, t, T', L, E', ce, h0, X', hL, e1, e2, hF, _⟩
  · have hv2 : v = some (.int k) := by injection hv
    subst hv2
    rw [h0] at hz hk
    obtain ⟨t2, a1, b1⟩ := kk T'.heap (locs ++ L) lsA (by rw [e1]; exact hp)
      ⟨Nat.le_trans hS.1 (by rw [e1]; exact hz), fun q h1 h2 => by rw [e1, hk q (Nat.lt_of_lt_of_le h1 hS.1) h2]; exact hS.2.1 q h1 h2, fun q hq => by
        rcases List.mem_append.mp hq with h | h
        · exact hS.2.2 q h
        · exact hL q h⟩ hl T' rfl X'
    exact ⟨t2, stp t2 a1, b1⟩
  · exact hF.elim
end LAW0
section LAW1
variable {p : Program} {l : Launch} {e : Env} {s : State} {m : MethodId} {args : Array Value} {below : List Frame} {meth : Method} {c : Code} {D : DD} {n0 N nL cells slots : Nat} {Q : State → Prop} {own : String} {cc : ByteArray} {σ σ1 : ST} {pc : Nat} {ls : List (Option Value)} {st : List Value}
/-- the answers side by side -/
theorem law_tail (C : Cx p l s m args meth c D n0 RL cL_law 7) (K : KX D n0 s s.heap) {κ μ : KH} {o : Int64} {b : Nat} {i k r : Int32} (h0 : μ 0 0 = k) (ho : k = 0 → o = r.toInt64) (hc : cells ≤ room_1.cells ∧ slots ≤ room_1.slots)
    (d0 : decode cL_law pc = .ok (.aload_n 2, 1)) (d1 : decode cL_law (pc + 1) = .ok (.invokevirtual 99, 3)) (d4 : decode cL_law (pc + 4) = .ok (.iload 5, 2)) (d6 : decode cL_law (pc + 6) = .ok (.if_icmp .eq 5, 3)) (d11 : decode cL_law (pc + 11) = .ok (.iload 5, 2)) (d13 : decode cL_law (pc + 13) = .ok (.ifCond .ne 15, 3)) (d16 : decode cL_law (pc + 16) = .ok (.aload_n 3, 1)) (d17 : decode cL_law (pc + 17) = .ok (.iconst 0, 1)) (d18 : decode cL_law (pc + 18) = .ok (.laload, 1)) (d19 : decode cL_law (pc + 19) = .ok (.iload 6, 2)) (d21 : decode cL_law (pc + 21) = .ok (.i2l, 1)) (d22 : decode cL_law (pc + 22) = .ok (.lcmp, 1)) (d23 : decode cL_law (pc + 23) = .ok (.ifCond .eq 5, 3)) {off : Int} (d28 : decode cL_law (pc + 28) = .ok (.goto off, 3)) (ht : ((pc + 28 : Nat) : Int) + off = ((1715 : Nat) : Int))
    (kk : ZZ p l e room_1 s m args below meth c D n0 127 7 cells slots Q (κ, μ, o) 1715 (lawL b n0 i none none) []) : ZZ p l e room_1 s m args below meth c D n0 127 7 cells slots Q (κ, μ, o) pc (lawL b n0 i (some (.int k)) (some (.int r))) [] := by
  have hg : ZZ p l e room_1 s m args below meth c D n0 127 7 cells slots Q (κ, μ, o) (pc + 28) (lawL b n0 i (some (.int k)) (some (.int r))) [] := z_goto C d28 ht (z_fewer lawL_le kk)
  refine z_aload_n C rfl d0 ?_
  refine z_callV (st := []) C K ok_L_99 (c_X5_thrown l D n0 κ μ o) enc_M (by decide) rfl rfl ⟨Nat.le_of_ble_eq_true rfl, Nat.le_of_ble_eq_true rfl⟩ hc (by simp) d1 rfl rfl ?_
  refine z_iload C rfl d4 ?_
  refine z_icmp_eq (tgt := pc + 11) C d6 (by omega) (fun _ => ?_) (fun h => absurd h0 h)
  refine z_iload C rfl d11 ?_
  refine z_if_ne (tgt := pc + 28) C d13 (by omega) (fun _ => hg) (fun hk => ?_)
  refine z_aload_n C rfl d16 ?_
  refine z_iconst (v := 0) C (by decide +kernel) d17 ?_
  refine z_lald C (by decide) d18 ?_
  refine z_iload C rfl d19 ?_
  refine z_i2l C d21 ?_
  refine z_lcmp C d22 ?_
  exact z_if_eq (tgt := pc + 28) C d23 (by omega) (fun _ => hg) (fun h => absurd ((lg_cmp_eq _ _).mpr (ho hk)) h)
end LAW1
