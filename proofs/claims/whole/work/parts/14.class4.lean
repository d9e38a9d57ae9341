section NROWS
variable {p : Program} {l : Launch} {e : Env} {R : Room} {s : State} {m : MethodId} {args : Array Value} {below : List Frame} {meth : Method} {c : Code} {D : DD} {n0 N nL cells slots : Nat} {Q : State → Prop} {own : String} {cc : ByteArray} {σ σ1 : ST} {pc : Nat} {ls : List (Option Value)} {st : List Value}
theorem z_aloadN (C : Cx p l s m args meth c D n0 own cc nL) {i : Nat} (hi : ls[i]? = some (some .null)) (hd : decode cc pc = .ok (.aload i, 2)) (kk : ZZ p l e R s m args below meth c D n0 N nL cells slots Q σ (pc + 2) ls (.null :: st)) : ZZ p l e R s m args below meth c D n0 N nL cells slots Q σ pc ls (st) := fun H locs lsA hP hS hl => lv_aloadN C.1 C.2.1 hd (hl.2.2 _ _ hi).1 (kk H locs lsA hP hS hl)
theorem z_astoreN (C : Cx p l s m args meth c D n0 own cc nL) {i : Nat} {ls' : List (Option Value)} (hn : i < nL) (hl' : ls.set i (some (.null)) = ls') (hd : decode cc pc = .ok (.astore i, 2)) (kk : ZZ p l e R s m args below meth c D n0 N nL cells slots Q σ (pc + 2) ls' (st)) : ZZ p l e R s m args below meth c D n0 N nL cells slots Q σ pc ls (.null :: st) := fun H locs lsA hP hS hl => lv_astoreN C.1 C.2.1 hd hl.has hn rfl (fun lsB hB => kk H locs lsB hP hS (hl' ▸ hl.set rfl hB))
end NROWS
/-! the class's calls, in words of its cells κ -/
def cSn (κ : KH) (i j p : Nat) (m : KH) : KH := cSet m 1 (cVk j) p (κ (cVk i + 1) p)
def cSn0 (κ : KH) (i j : Nat) : KH := cAdd κ 1 (cVk j) (κ (cVk i) 2) (κ (cVk i) 1) (κ (cVk i) 3) (nI i)
def cSnap (κ : KH) (i j : Nat) : KH := iterK (cSn κ i j) 40 (cSn0 κ i j)
def cDp0 (κ : KH) (j n : Nat) : KH := up (up (cRm κ (nI j) n).1 108 0 (nI (cRm κ (nI j) n).2)) 0 11 (κ 0 11 + nI (n - (cRm κ (nI j) n).2))
def cDp1 (κ : KH) (j n : Nat) : KH := cUm (cDp0 κ j n) 1 (cVk j) 0 40
def cDp (κ : KH) (j n : Nat) : KH := up (cVz (cDp1 κ j n) (cVk j)) 1 1 (cDp1 κ j n 1 1 - 1)
theorem cVk_ne {i j : Nat} (hi : i < 16) (hj : j < 16) (h : i ≠ j) : cVk i ≠ cVk j ∧ cVk i ≠ cVk j + 1 ∧ cVk i + 1 ≠ cVk j ∧ cVk i + 1 ≠ cVk j + 1 := by
  unfold cVk; refine ⟨?_, ?_, ?_, ?_⟩ <;> omega
theorem cAdd_o {κ : KH} {b k c : Nat} {z g i j : Int32} (h1 : c ≠ b) (h2 : c ≠ k) : cAdd κ b k z g i j c = κ c := by
  unfold cAdd; rw [up_cell h1, up_cell h2, up_cell h2, up_cell h2, up_cell h2, up_cell h2]
theorem cSn_src {κ : KH} {i j : Nat} (hi : i < 16) (hj : j < 16) (h : i ≠ j) : ∀ p, iterK (cSn κ i j) p (cSn0 κ i j) (cVk i + 1) = κ (cVk i + 1)
  | 0 => by
    have := cVk_lt hi
    obtain ⟨a1, a2, a3, a4⟩ := cVk_ne hi hj h
    show cSn0 κ i j (cVk i + 1) = _
    unfold cSn0; exact cAdd_o (by omega) a3
  | p + 1 => by
    have := cVk_lt hi
    have hu := isS_V okS1 (isVk hi)
    obtain ⟨a1, a2, a3, a4⟩ := cVk_ne hi hj h
    show cSn κ i j p (iterK (cSn κ i j) p (cSn0 κ i j)) (cVk i + 1) = _
    unfold cSn
    rw [cSet_o (Ne.symm hu.2.1) a3 a4]
    exact cSn_src hi hj h p
theorem cSn_ext {κ : KH} {i j : Nat} (hj : j < 16) (q : Nat) : ∀ p, iterK (cSn κ i j) p (cSn0 κ i j) (cVk j + 1) q = if q < p then κ (cVk i + 1) q else κ (cVk j + 1) q
  | 0 => by
    have := cVk_lt hj
    show cSn0 κ i j (cVk j + 1) q = _
    unfold cSn0; rw [cAdd_o (by omega) (by omega), if_neg (by omega)]
  | p + 1 => by
    show cSet (iterK (cSn κ i j) p (cSn0 κ i j)) 1 (cVk j) p (κ (cVk i + 1) p) (cVk j + 1) q = _
    rw [cSet_ext okS1 (isVk hj), cSn_ext hj q p]
    by_cases h : q = p
    · rw [if_pos h, if_pos (by omega), h]
    · rw [if_neg h]
      by_cases h2 : q < p
      · rw [if_pos h2, if_pos (by omega)]
      · rw [if_neg h2, if_neg (by omega)]
theorem cDp0_o {κ : KH} {j n c : Nat} (h0 : c ≠ 0) (h1 : c ≠ 108) (h2 : c ≠ 109) (h3 : c ≠ 110) (h4 : c ≠ 111) : cDp0 κ j n c = κ c := by
  unfold cDp0; rw [up_cell h0, up_cell h1, cRm_o κ (nI j) c h2 h3 h4]
theorem cPut_o {κ : KH} {a c : Nat} {v w x : Int32} (h1 : c ≠ 109) (h2 : c ≠ 110) (h3 : c ≠ 111) : cPut κ a v w x c = κ c := by
  unfold cPut; rw [up_cell h3, up_cell h2, up_cell h1]
def okCD (κ : KH) (j : Nat) (a n : Int32) : Prop := ∃ p c z : Nat, z ≤ 40 ∧ κ (cVk j) 2 = nI z ∧ a = nI p ∧ n = nI c ∧ p + c ≤ z
theorem okCD_of {κ : KH} {j z : Nat} {a n : Int32} (h2 : ¬ a < 0) (h3 : ¬ n < 0) (h4 : ¬ nI z < a) (h5 : n ≤ nI z - a) (hz : κ (cVk j) 2 = nI z) (hz40 : z ≤ 40) : okCD κ j a n := by
  obtain ⟨p, hp, rfl⟩ := nI_of h2
  obtain ⟨c, hc, rfl⟩ := nI_of h3
  have hpz : p ≤ z := cv_nlt (by omega) hp h4
  rw [cv_sub hpz] at h5
  have := (nI_leI hc (by omega)).mp h5
  exact ⟨p, c, z, hz40, hz, rfl, rfl, by omega⟩
theorem b_or {w : Int32} (h1 : ¬ w < 0) (h2 : w < 160) (hb : ¬ ∃ c : Nat, w = nI c ∧ c < 160) : False := by
  obtain ⟨c, hc, rfl⟩ := nI_of h1
  exact hb ⟨c, rfl, cv_lt (b := 160) hc (by omega) h2⟩
def cCut (y : KH) : KH := up (up (up (up (cScp y 1 36) 108 0 0) 0 11 (cScp y 1 36 0 11 + cScp y 1 36 108 0)) 0 7 0) 106 1 0
theorem cfm_0 {n : Nat} (h : n < 2 ^ 31) (h1 : nI n ≤ 0) : n = 0 := by
  have h2 : nI n ≤ nI 0 := h1
  have := cv_le h (by decide) h2
  omega
theorem cfm_n {n : Nat} (h1 : ¬ nI n ≤ 0) : n ≠ 0 := fun q => h1 (by rw [q]; decide +kernel)
theorem cs {μ : KH} {o : Int64} {q : KH × Int32} {z : KH} {r : Int32} (h : q = (z, r)) : ((z, μ, o) : ST) = (q.1, μ, o) := by rw [h]
section CWR
variable {κ : KH} {k w n : Nat} {v x : Int32}
theorem cEn_e {a : Int32} (h : nQc κ = 8) : cEn κ v a x = (κ, -1) := if_pos h
theorem cEn_l {a : Int32} (hn : nQc κ = n) (h : ¬ n = 8) : cEn κ v a x = (up (cPut κ n v a x) 108 0 (nI (n + 1)), 3) := by
  subst hn; exact if_neg h
theorem cWn_1 (h : κ 0 7 = 1) : cWn κ k v w x = cEn κ v (nI w) x := if_pos h
theorem cWn_2 (h : ¬ κ 0 7 = 1) (h2 : cFM κ (nC κ) ≠ 0) : cWn κ k v w x = (cPerf (up κ 0 7 0) k w x, cPerR (up κ 0 7 0) k w) := (if_neg h).trans (if_pos h2)
theorem cWn_3 (h : ¬ κ 0 7 = 1) (h2 : cFM κ (nC κ) = 0) (h3 : κ 0 7 = 0) (h4 : 0 < κ 0 8) : cWn κ k v w x = cEn (up (up κ 0 7 1) 0 9 (κ 0 10 + κ 0 8)) v (nI w) x := (if_neg h).trans ((if_neg (fun q => q h2)).trans (if_pos ⟨h3, h4⟩))
theorem cWn_4 (h : ¬ κ 0 7 = 1) (h2 : cFM κ (nC κ) = 0) (h3 : ¬ (κ 0 7 = 0 ∧ 0 < κ 0 8)) : cWn κ k v w x = (up κ 0 7 2, -1) := (if_neg h).trans ((if_neg (fun q => q h2)).trans (if_neg h3))
theorem cWr_1 (h : κ 0 7 = 1) (hn : nQc κ = n) (h2 : cWt κ n v (nI (w / 4)) (nI (w / 4 + 1)) = true) : cWr κ k v w x = cEn κ v (nI w) x := by
  subst hn; exact if_pos ⟨h, h2⟩
theorem cWr_2 (h : ¬ (κ 0 7 = 1 ∧ cWt κ n v (nI (w / 4)) (nI (w / 4 + 1)) = true)) (hn : nQc κ = n) (h2 : cNeed κ k (w / 4) = false) : cWr κ k v w x = (cPerf κ k w x, cPerR κ k w) := by
  subst hn; exact (if_neg h).trans (if_pos h2)
theorem cWr_3 (h : ¬ (κ 0 7 = 1 ∧ cWt κ n v (nI (w / 4)) (nI (w / 4 + 1)) = true)) (hn : nQc κ = n) (h2 : cNeed κ k (w / 4) = true) (h3 : cOver κ k (w / 4) = true) : cWr κ k v w x = (κ, -1) := by
  subst hn; exact (if_neg h).trans ((if_neg (by rw [h2]; decide)).trans (if_pos h3))
theorem cWr_4 (h : ¬ (κ 0 7 = 1 ∧ cWt κ n v (nI (w / 4)) (nI (w / 4 + 1)) = true)) (hn : nQc κ = n) (h2 : cNeed κ k (w / 4) = true) (h3 : cOver κ k (w / 4) = false) : cWr κ k v w x = cWn κ k v w x := by
  subst hn; exact (if_neg h).trans ((if_neg (by rw [h2]; decide)).trans (if_neg (by rw [h3]; decide)))
end CWR
set_option maxHeartbeats 4000000 in
set_option maxRecDepth 100000 in
theorem c_X4_make_1 (l : Launch) (hfl : l.stackTraces = false) (D : DD) (n0 : Nat) (κ μ : KH) (o : Int64) (v s b : Int32) (hv : vNum v = false) : HT l D n0 yX4_make cX4_make 5 (some .int) 7 104 [.ref (n0 + 0), .int v, .int s, .int b] (κ, μ, o) cIO := by
  refine HT.of (by decide) (by simp [Value.category]) (by simp) ?_
  intro pp ee ss mm aa bb me cd C K hxt
  show ZZ pp l ee (rmx 7 104) ss mm aa bb me cd D n0 127 5 0 0 _ _ 0 [some (.ref (n0 + 0)), some (.int v), some (.int s), some (.int b), none] []
  refine z_aload_n C rfl dX4_make_0 ?_
  refine z_iload_n C rfl dX4_make_1 ?_
  refine z_callVT (As := [.int v]) (E := cIO) (st := []) C K ok_X4_42 (c_X4_numbered_t l hfl D n0 κ μ o v hv) enc_0 (by decide) rfl rfl ⟨by decide, by decide⟩ ⟨by decide, by decide⟩ (by simp [Value.category]) dX4_make_2 rfl ?_
  exact fun H locs lsA q9 ce hP hS _ h1 h2 h3 => z_out (σ0 := (κ, μ, o)) (a0 := aa) hxt C.2.2.2.2.2.2.2 hP hS h1 h2 h3
set_option maxHeartbeats 4000000 in
set_option maxRecDepth 100000 in
theorem c_X4_make_2 (l : Launch) (hfl : l.stackTraces = false) (D : DD) (n0 : Nat) (κ μ : KH) (o : Int64) (j : Nat) (s b : Int32) (hj : j < 16) (hs : vSiz s = false) : HT l D n0 yX4_make cX4_make 5 (some .int) 7 103 [.ref (n0 + 0), .int (nI j), .int s, .int b] (κ, μ, o) cIA := by
  refine HT.of (by decide) (by simp [Value.category]) (by simp) ?_
  intro pp ee ss mm aa bb me cd C K hxt
  show ZZ pp l ee (rmx 7 103) ss mm aa bb me cd D n0 127 5 0 0 _ _ 0 [some (.ref (n0 + 0)), some (.int (nI j)), some (.int s), some (.int b), none] []
  refine z_aload_n C rfl dX4_make_0 ?_
  refine z_iload_n C rfl dX4_make_1 ?_
  refine z_callV (As := [.int (nI j)]) (r := (some (.ref (n0 + (cVk j))))) (σ1 := (κ, μ, o)) (st := []) (st1 := [.ref (n0 + (cVk j))]) C K ok_X4_42 (c_X4_numbered l D n0 κ μ o j (by omega)) enc_0 (by decide) rfl rfl ⟨by decide, by decide⟩ ⟨Nat.zero_le _, Nat.zero_le _⟩ (by simp [Value.category]) dX4_make_2 rfl rfl ?_
  refine z_astore (ls' := [some (.ref (n0 + 0)), some (.int (nI j)), some (.int s), some (.int b), some (.ref (n0 + (cVk j)))]) C (by decide) rfl dX4_make_5 ?_
  refine z_aload_n C rfl dX4_make_7 ?_
  refine z_iload_n C rfl dX4_make_8 ?_
  refine z_callVT (As := [.int s]) (E := cIA) (st := []) C K ok_X4_46 (c_X4_requireSize_t l hfl D n0 κ μ o s hs) enc_0 (by decide) rfl rfl ⟨by decide, by decide⟩ ⟨by decide, by decide⟩ (by simp [Value.category]) dX4_make_9 rfl ?_
  exact fun H locs lsA q9 ce hP hS _ h1 h2 h3 => z_out (σ0 := (κ, μ, o)) (a0 := aa) hxt C.2.2.2.2.2.2.2 hP hS h1 h2 h3
set_option maxHeartbeats 4000000 in
set_option maxRecDepth 100000 in
theorem c_X4_make_3 (l : Launch) (hfl : l.stackTraces = false) (D : DD) (n0 : Nat) (κ μ : KH) (o : Int64) (j z : Nat) (b : Int32) (hj : j < 16) (h1 : 1 ≤ z) (h40 : z ≤ 40) (h0 : κ (cVk j) 0 ≠ 0) : HT l D n0 yX4_make cX4_make 5 (some .int) 6 82 [.ref (n0 + 0), .int (nI j), .int (nI z), .int b] (κ, μ, o) cIS := by
  refine HT.of (by decide) (by simp [Value.category]) (by simp) ?_
  intro pp ee ss mm aa bb me cd C K hxt
  show ZZ pp l ee (rmx 6 82) ss mm aa bb me cd D n0 127 5 0 0 _ _ 0 [some (.ref (n0 + 0)), some (.int (nI j)), some (.int (nI z)), some (.int b), none] []
  refine z_aload_n C rfl dX4_make_0 ?_
  refine z_iload_n C rfl dX4_make_1 ?_
  refine z_callV (As := [.int (nI j)]) (r := (some (.ref (n0 + (cVk j))))) (σ1 := (κ, μ, o)) (st := []) (st1 := [.ref (n0 + (cVk j))]) C K ok_X4_42 (c_X4_numbered l D n0 κ μ o j (by omega)) enc_0 (by decide) rfl rfl ⟨by decide, by decide⟩ ⟨Nat.zero_le _, Nat.zero_le _⟩ (by simp [Value.category]) dX4_make_2 rfl rfl ?_
  refine z_astore (ls' := [some (.ref (n0 + 0)), some (.int (nI j)), some (.int (nI z)), some (.int b), some (.ref (n0 + (cVk j)))]) C (by decide) rfl dX4_make_5 ?_
  refine z_aload_n C rfl dX4_make_7 ?_
  refine z_iload_n C rfl dX4_make_8 ?_
  refine z_callV (As := [.int (nI z)]) (r := none) (σ1 := (κ, μ, o)) (st := []) (st1 := []) C K ok_X4_46 (c_X4_requireSize l D n0 κ μ o z (by omega) (by omega)) enc_0 (by decide) rfl rfl ⟨by decide, by decide⟩ ⟨Nat.zero_le _, Nat.zero_le _⟩ (by simp [Value.category]) dX4_make_9 rfl rfl ?_
  refine z_aload C rfl dX4_make_12 ?_
  refine gf_X4_50 (v := κ (cVk j) 0) C (isVk hj) rfl dX4_make_14 ?_
  refine z_if_eq (tgt := 30) C dX4_make_17 (by decide) (fun h_17 => ?_) (fun h_17 => ?_)
  · exact absurd h_17 h0
  · skip
    exact z_throwS (σ0 := (κ, μ, o)) C K hfl hxt (E := cIS) (by decide +kernel) (by decide +kernel) th4_cIS th5_cIS rfl (List.mem_of_getElem? (i := 2) rfl) th1_cIS th2_cIS th3_cIS dX4_make_20 dX4_make_23 dX4_make_24 dX4_make_26 dX4_make_29 ⟨by decide, by decide, by decide, by decide⟩
set_option maxHeartbeats 4000000 in
set_option maxRecDepth 100000 in
theorem c_X4_make (l : Launch) (D : DD) (n0 : Nat) (κ μ : KH) (o : Int64) (j z : Nat) (b : Int32) (hj : j < 16) (h1 : 1 ≤ z) (h40 : z ≤ 40) (hb : b = 0 ∨ b = 1) (h0 : κ (cVk j) 0 = 0) : HM l D n0 yX4_make cX4_make 5 (some .int) 2 43 [.ref (n0 + 0), .int (nI j), .int (nI z), .int b] (κ, μ, o) (some (.int (κ 1 1 + 1))) (cAdd κ 1 (cVk j) (nI z) b (-1) (-1), μ, o) := by
  refine HM.of (by decide) (by simp [Value.category]) (by simp) (Or.inr (Or.inl ⟨_, .int, rfl, rfl, rfl⟩)) ?_
  intro pp ee ss mm aa bb me cd Q C K hret
  show ZZ pp l ee (rmk 2 43) ss mm aa bb me cd D n0 127 5 0 0 Q _ 0 [some (.ref (n0 + 0)), some (.int (nI j)), some (.int (nI z)), some (.int b), none] []
  refine z_aload_n C rfl dX4_make_0 ?_
  refine z_iload_n C rfl dX4_make_1 ?_
  refine z_callV (As := [.int (nI j)]) (r := (some (.ref (n0 + (cVk j))))) (σ1 := (κ, μ, o)) (st := []) (st1 := [.ref (n0 + (cVk j))]) C K ok_X4_42 (c_X4_numbered l D n0 κ μ o j (by omega)) enc_0 (by decide) rfl rfl ⟨by decide, by decide⟩ ⟨Nat.zero_le _, Nat.zero_le _⟩ (by simp [Value.category]) dX4_make_2 rfl rfl ?_
  refine z_astore (ls' := [some (.ref (n0 + 0)), some (.int (nI j)), some (.int (nI z)), some (.int b), some (.ref (n0 + (cVk j)))]) C (by decide) rfl dX4_make_5 ?_
  refine z_aload_n C rfl dX4_make_7 ?_
  refine z_iload_n C rfl dX4_make_8 ?_
  refine z_callV (As := [.int (nI z)]) (r := none) (σ1 := (κ, μ, o)) (st := []) (st1 := []) C K ok_X4_46 (c_X4_requireSize l D n0 κ μ o z (by omega) (by omega)) enc_0 (by decide) rfl rfl ⟨by decide, by decide⟩ ⟨Nat.zero_le _, Nat.zero_le _⟩ (by simp [Value.category]) dX4_make_9 rfl rfl ?_
  refine z_aload C rfl dX4_make_12 ?_
  refine gf_X4_50 (v := κ (cVk j) 0) C (isVk hj) rfl dX4_make_14 ?_
  refine z_if_eq (tgt := 30) C dX4_make_17 (by decide) (fun h_17 => ?_) (fun h_17 => ?_)
  · skip
    refine z_aload_n C rfl dX4_make_30 ?_
    refine gf_X4_10 C dX4_make_31 ?_
    refine z_aload C rfl dX4_make_34 ?_
    refine z_iload_n C rfl dX4_make_36 ?_
    refine z_iload_n C rfl dX4_make_37 ?_
    refine z_iconst (v := (-1)) C (by decide +kernel) dX4_make_38 ?_
    refine z_iconst (v := (-1)) C (by decide +kernel) dX4_make_39 ?_
    refine z_callV (As := [.ref (n0 + (cVk j)), .int (nI z), .int b, .int ((-1)), .int ((-1))]) (r := none) (σ1 := (cAdd κ 1 (cVk j) (nI z) b (-1) (-1), μ, o)) (st := []) (st1 := []) C K ok_X4_63 (c_X2_add l D n0 κ μ o 1 (cVk j) (nI z) b (-1) (-1) okS1 (isVk hj) hb) (enc_S (Or.inl rfl)) (isS_lt (Or.inl rfl)) rfl rfl ⟨by decide, by decide⟩ ⟨Nat.zero_le _, Nat.zero_le _⟩ (by simp [Value.category]) dX4_make_40 rfl rfl ?_
    refine z_aload_n C rfl dX4_make_43 ?_
    refine gf_X4_10 C dX4_make_44 ?_
    refine gf_X4_67 (v := κ 1 1 + 1) C (Or.inl rfl) up_self dX4_make_47 ?_
    exact z_endI (hret _ _ dX4_make_50) rfl rfl
  · exact absurd h0 h_17
set_option maxHeartbeats 4000000 in
set_option maxRecDepth 100000 in
theorem c_X4_snap_1 (l : Launch) (hfl : l.stackTraces = false) (D : DD) (n0 : Nat) (κ μ : KH) (o : Int64) (i v : Int32) (hv : vNum v = false) : HT l D n0 yX4_snap cX4_snap 6 (some .int) 7 104 [.ref (n0 + 0), .int i, .int v] (κ, μ, o) cIO := by
  refine HT.of (by decide) (by simp [Value.category]) (by simp) ?_
  intro pp ee ss mm aa bb me cd C K hxt
  show ZZ pp l ee (rmx 7 104) ss mm aa bb me cd D n0 127 6 0 0 _ _ 0 [some (.ref (n0 + 0)), some (.int i), some (.int v), none, none, none] []
  refine z_aload_n C rfl dX4_snap_0 ?_
  refine z_iload_n C rfl dX4_snap_1 ?_
  refine z_callVT (As := [.int v]) (E := cIO) (st := []) C K ok_X4_42 (c_X4_numbered_t l hfl D n0 κ μ o v hv) enc_0 (by decide) rfl rfl ⟨by decide, by decide⟩ ⟨by decide, by decide⟩ (by simp [Value.category]) dX4_snap_2 rfl ?_
  exact fun H locs lsA q9 ce hP hS _ h1 h2 h3 => z_out (σ0 := (κ, μ, o)) (a0 := aa) hxt C.2.2.2.2.2.2.2 hP hS h1 h2 h3
set_option maxHeartbeats 4000000 in
set_option maxRecDepth 100000 in
theorem c_X4_snap_2 (l : Launch) (hfl : l.stackTraces = false) (D : DD) (n0 : Nat) (κ μ : KH) (o : Int64) (i : Int32) (j : Nat) (hj : j < 16) (hb : ¬ okC κ i) : HT l D n0 yX4_snap cX4_snap 6 (some .int) 7 104 [.ref (n0 + 0), .int i, .int (nI j)] (κ, μ, o) cIO := by
  refine HT.of (by decide) (by simp [Value.category]) (by simp) ?_
  intro pp ee ss mm aa bb me cd C K hxt
  show ZZ pp l ee (rmx 7 104) ss mm aa bb me cd D n0 127 6 0 0 _ _ 0 [some (.ref (n0 + 0)), some (.int i), some (.int (nI j)), none, none, none] []
  refine z_aload_n C rfl dX4_snap_0 ?_
  refine z_iload_n C rfl dX4_snap_1 ?_
  refine z_callV (As := [.int (nI j)]) (r := (some (.ref (n0 + (cVk j))))) (σ1 := (κ, μ, o)) (st := []) (st1 := [.ref (n0 + (cVk j))]) C K ok_X4_42 (c_X4_numbered l D n0 κ μ o j (by omega)) enc_0 (by decide) rfl rfl ⟨by decide, by decide⟩ ⟨Nat.zero_le _, Nat.zero_le _⟩ (by simp [Value.category]) dX4_snap_2 rfl rfl ?_
  refine z_astore_n (ls' := [some (.ref (n0 + 0)), some (.int i), some (.int (nI j)), some (.ref (n0 + (cVk j))), none, none]) C (by decide) rfl dX4_snap_5 ?_
  refine z_aload_n C rfl dX4_snap_6 ?_
  refine z_iload_n C rfl dX4_snap_7 ?_
  refine z_callVT (As := [.int i]) (E := cIO) (st := []) C K ok_X4_71 (c_X4_existing_t l hfl D n0 κ μ o i hb) enc_0 (by decide) rfl rfl ⟨by decide, by decide⟩ ⟨by decide, by decide⟩ (by simp [Value.category]) dX4_snap_8 rfl ?_
  exact fun H locs lsA q9 ce hP hS _ h1 h2 h3 => z_out (σ0 := (κ, μ, o)) (a0 := aa) hxt C.2.2.2.2.2.2.2 hP hS h1 h2 h3
set_option maxHeartbeats 4000000 in
set_option maxRecDepth 100000 in
theorem c_X4_snap_3 (l : Launch) (hfl : l.stackTraces = false) (D : DD) (n0 : Nat) (κ μ : KH) (o : Int64) (i j : Nat) (hi : i < 16) (hj : j < 16) (h1 : κ (cVk i) 0 ≠ 0) (h0 : κ (cVk j) 0 ≠ 0) : HT l D n0 yX4_snap cX4_snap 6 (some .int) 6 82 [.ref (n0 + 0), .int (nI i), .int (nI j)] (κ, μ, o) cIS := by
  refine HT.of (by decide) (by simp [Value.category]) (by simp) ?_
  intro pp ee ss mm aa bb me cd C K hxt
  show ZZ pp l ee (rmx 6 82) ss mm aa bb me cd D n0 127 6 0 0 _ _ 0 [some (.ref (n0 + 0)), some (.int (nI i)), some (.int (nI j)), none, none, none] []
  refine z_aload_n C rfl dX4_snap_0 ?_
  refine z_iload_n C rfl dX4_snap_1 ?_
  refine z_callV (As := [.int (nI j)]) (r := (some (.ref (n0 + (cVk j))))) (σ1 := (κ, μ, o)) (st := []) (st1 := [.ref (n0 + (cVk j))]) C K ok_X4_42 (c_X4_numbered l D n0 κ μ o j (by omega)) enc_0 (by decide) rfl rfl ⟨by decide, by decide⟩ ⟨Nat.zero_le _, Nat.zero_le _⟩ (by simp [Value.category]) dX4_snap_2 rfl rfl ?_
  refine z_astore_n (ls' := [some (.ref (n0 + 0)), some (.int (nI i)), some (.int (nI j)), some (.ref (n0 + (cVk j))), none, none]) C (by decide) rfl dX4_snap_5 ?_
  refine z_aload_n C rfl dX4_snap_6 ?_
  refine z_iload_n C rfl dX4_snap_7 ?_
  refine z_callV (As := [.int (nI i)]) (r := (some (.ref (n0 + (cVk i))))) (σ1 := (κ, μ, o)) (st := []) (st1 := [.ref (n0 + (cVk i))]) C K ok_X4_71 (c_X4_existing l D n0 κ μ o i (by omega) h1) enc_0 (by decide) rfl rfl ⟨by decide, by decide⟩ ⟨Nat.zero_le _, Nat.zero_le _⟩ (by simp [Value.category]) dX4_snap_8 rfl rfl ?_
  refine z_astore (ls' := [some (.ref (n0 + 0)), some (.int (nI i)), some (.int (nI j)), some (.ref (n0 + (cVk j))), some (.ref (n0 + (cVk i))), none]) C (by decide) rfl dX4_snap_11 ?_
  refine z_aload_n C rfl dX4_snap_13 ?_
  refine gf_X4_50 (v := κ (cVk j) 0) C (isVk hj) rfl dX4_snap_14 ?_
  refine z_if_eq (tgt := 30) C dX4_snap_17 (by decide) (fun h_17 => ?_) (fun h_17 => ?_)
  · exact absurd h_17 h0
  · skip
    exact z_throwS (σ0 := (κ, μ, o)) C K hfl hxt (E := cIS) (by decide +kernel) (by decide +kernel) th4_cIS th5_cIS rfl (List.mem_of_getElem? (i := 2) rfl) th1_cIS th2_cIS th3_cIS dX4_snap_20 dX4_snap_23 dX4_snap_24 dX4_snap_26 dX4_snap_29 ⟨by decide, by decide, by decide, by decide⟩
set_option maxHeartbeats 4000000 in
set_option maxRecDepth 100000 in
theorem c_X4_snap (l : Launch) (D : DD) (n0 : Nat) (κ μ : KH) (o : Int64) (i j : Nat) (hi : i < 16) (hj : j < 16) (h1 : κ (cVk i) 0 ≠ 0) (h0 : κ (cVk j) 0 = 0) (hg : κ (cVk i) 1 = 0 ∨ κ (cVk i) 1 = 1) (hX : ∀ k, isV k → ∀ q, isX (κ (k + 1) q)) : HM l D n0 yX4_snap cX4_snap 6 (some .int) 3 65 [.ref (n0 + 0), .int (nI i), .int (nI j)] (κ, μ, o) (some (.int (cSnap κ i j (cVk j) 5))) (cSnap κ i j, μ, o) := by
  refine HM.of (by decide) (by simp [Value.category]) (by simp) (Or.inr (Or.inl ⟨_, .int, rfl, rfl, rfl⟩)) ?_
  intro pp ee ss mm aa bb me cd Q C K hret
  show ZZ pp l ee (rmk 3 65) ss mm aa bb me cd D n0 127 6 0 0 Q _ 0 [some (.ref (n0 + 0)), some (.int (nI i)), some (.int (nI j)), none, none, none] []
  have hij : i ≠ j := fun q => h1 (by rw [q]; exact h0)
  refine z_aload_n C rfl dX4_snap_0 ?_
  refine z_iload_n C rfl dX4_snap_1 ?_
  refine z_callV (As := [.int (nI j)]) (r := (some (.ref (n0 + (cVk j))))) (σ1 := (κ, μ, o)) (st := []) (st1 := [.ref (n0 + (cVk j))]) C K ok_X4_42 (c_X4_numbered l D n0 κ μ o j (by omega)) enc_0 (by decide) rfl rfl ⟨by decide, by decide⟩ ⟨Nat.zero_le _, Nat.zero_le _⟩ (by simp [Value.category]) dX4_snap_2 rfl rfl ?_
  refine z_astore_n (ls' := [some (.ref (n0 + 0)), some (.int (nI i)), some (.int (nI j)), some (.ref (n0 + (cVk j))), none, none]) C (by decide) rfl dX4_snap_5 ?_
  refine z_aload_n C rfl dX4_snap_6 ?_
  refine z_iload_n C rfl dX4_snap_7 ?_
  refine z_callV (As := [.int (nI i)]) (r := (some (.ref (n0 + (cVk i))))) (σ1 := (κ, μ, o)) (st := []) (st1 := [.ref (n0 + (cVk i))]) C K ok_X4_71 (c_X4_existing l D n0 κ μ o i (by omega) h1) enc_0 (by decide) rfl rfl ⟨by decide, by decide⟩ ⟨Nat.zero_le _, Nat.zero_le _⟩ (by simp [Value.category]) dX4_snap_8 rfl rfl ?_
  refine z_astore (ls' := [some (.ref (n0 + 0)), some (.int (nI i)), some (.int (nI j)), some (.ref (n0 + (cVk j))), some (.ref (n0 + (cVk i))), none]) C (by decide) rfl dX4_snap_11 ?_
  refine z_aload_n C rfl dX4_snap_13 ?_
  refine gf_X4_50 (v := κ (cVk j) 0) C (isVk hj) rfl dX4_snap_14 ?_
  refine z_if_eq (tgt := 30) C dX4_snap_17 (by decide) (fun h_17 => ?_) (fun h_17 => ?_)
  · skip
    refine z_aload_n C rfl dX4_snap_30 ?_
    refine gf_X4_10 C dX4_snap_31 ?_
    refine z_aload_n C rfl dX4_snap_34 ?_
    refine z_aload C rfl dX4_snap_35 ?_
    refine gf_X4_74 (v := κ (cVk i) 2) C (isVk hi) rfl dX4_snap_37 ?_
    refine z_aload C rfl dX4_snap_40 ?_
    refine gf_X4_77 (v := κ (cVk i) 1) C (isVk hi) rfl dX4_snap_42 ?_
    refine z_aload C rfl dX4_snap_45 ?_
    refine gf_X4_80 (v := κ (cVk i) 3) C (isVk hi) rfl dX4_snap_47 ?_
    refine z_iload_n C rfl dX4_snap_50 ?_
    refine z_callV (As := [.ref (n0 + (cVk j)), .int (κ (cVk i) 2), .int (κ (cVk i) 1), .int (κ (cVk i) 3), .int (nI i)]) (r := none) (σ1 := (cSn0 κ i j, μ, o)) (st := []) (st1 := []) C K ok_X4_63 (c_X2_add l D n0 κ μ o 1 (cVk j) (κ (cVk i) 2) (κ (cVk i) 1) (κ (cVk i) 3) (nI i) okS1 (isVk hj) hg) (enc_S (Or.inl rfl)) (isS_lt (Or.inl rfl)) rfl rfl ⟨by decide, by decide⟩ ⟨Nat.zero_le _, Nat.zero_le _⟩ (by simp [Value.category]) dX4_snap_51 rfl rfl ?_
    refine z_iconst (v := 0) C (by decide +kernel) dX4_snap_54 ?_
    refine z_istore (ls' := [some (.ref (n0 + 0)), some (.int (nI i)), some (.int (nI j)), some (.ref (n0 + (cVk j))), some (.ref (n0 + (cVk i))), some (.int 0)]) C (by decide) rfl dX4_snap_55 ?_
    refine z_cast (σ1 := (iterK (cSn κ i j) 0 (cSn0 κ i j), μ, o)) (ls' := [some (.ref (n0 + 0)), some (.int (nI i)), some (.int (nI j)), some (.ref (n0 + (cVk j))), some (.ref (n0 + (cVk i))), some (.int (nI 0))]) (st' := []) (z_for (P := fun p => ZZ pp l ee (rmk 3 65) ss mm aa bb me cd D n0 127 6 0 0 Q (iterK (cSn κ i j) p (cSn0 κ i j), μ, o) 57 [some (.ref (n0 + 0)), some (.int (nI i)), some (.int (nI j)), some (.ref (n0 + (cVk j))), some (.ref (n0 + (cVk i))), some (.int (nI p))] []) (40) ?_ ?_ 0 (Nat.zero_le _)) rfl ⟨rfl, rfl, rfl, rfl, rfl, rfl, trivial⟩ rfl
    · skip
      refine z_iload C rfl dX4_snap_57 ?_
      refine z_bipush (v := 40) C (by decide +kernel) dX4_snap_59 ?_
      refine z_icmp_ge (tgt := 87) C dX4_snap_61 (by decide) (fun h_61 => ?_) (fun h_61 => ?_)
      · have g_61 := cv_le (a := 40) (b := 40) (by omega) (by omega) h_61
        refine z_aload_n C rfl dX4_snap_87 ?_
        refine gf_X4_91 (v := cSnap κ i j (cVk j) 5) C (isVk hj) rfl dX4_snap_88 ?_
        exact z_endI (hret _ _ dX4_snap_91) rfl rfl
      · have g_61 := cv_nle (a := 40) (b := 40) (by omega) (by omega) h_61
        exact absurd g_61 (by omega)
    · intro p hi_57 ih_57
      refine z_iload C rfl dX4_snap_57 ?_
      refine z_bipush (v := 40) C (by decide +kernel) dX4_snap_59 ?_
      refine z_icmp_ge (tgt := 87) C dX4_snap_61 (by decide) (fun h_61 => ?_) (fun h_61 => ?_)
      · have g_61 := cv_le (a := 40) (b := p) (by omega) (by omega) h_61
        exact absurd hi_57 (by omega)
      · have g_61 := cv_nle (a := 40) (b := p) (by omega) (by omega) h_61
        refine z_aload_n C rfl dX4_snap_64 ?_
        refine gf_X4_10 C dX4_snap_65 ?_
        refine z_aload_n C rfl dX4_snap_68 ?_
        refine z_iload C rfl dX4_snap_69 ?_
        refine z_aload C rfl dX4_snap_71 ?_
        refine z_iload C rfl dX4_snap_73 ?_
        refine z_callV (As := [.int (nI p)]) (r := (some (.int (κ (cVk i + 1) p)))) (σ1 := (iterK (cSn κ i j) p (cSn0 κ i j), μ, o)) (st := [.int (nI p), .ref (n0 + (cVk j)), .ref (n0 + 1)]) (st1 := [.int (κ (cVk i + 1) p), .int (nI p), .ref (n0 + (cVk j)), .ref (n0 + 1)]) C K ok_X4_83 (c_X3_extentOf l D n0 (iterK (cSn κ i j) p (cSn0 κ i j)) μ o (cVk i) p (κ (cVk i + 1) p) (isVk hi) (by omega) (congrFun (cSn_src hi hj hij p) p)) (enc_V (isVk hi)) (isV_lt (isVk hi)) rfl rfl ⟨by decide, by decide⟩ ⟨Nat.zero_le _, Nat.zero_le _⟩ (by simp [Value.category]) dX4_snap_75 rfl rfl ?_
        refine z_callV (As := [.ref (n0 + (cVk j)), .int (nI p), .int (κ (cVk i + 1) p)]) (r := none) (σ1 := (cSet (iterK (cSn κ i j) p (cSn0 κ i j)) 1 (cVk j) p (κ (cVk i + 1) p), μ, o)) (st := []) (st1 := []) C K ok_X4_87 (c_X2_setExtent l D n0 (iterK (cSn κ i j) p (cSn0 κ i j)) μ o 1 (cVk j) p (κ (cVk i + 1) p) okS1 (isVk hj) (by omega) (by rw [cSn_ext hj p p, if_neg (Nat.lt_irrefl p)]; exact hX _ (isVk hj) _) (hX _ (isVk hi) _)) (enc_S (Or.inl rfl)) (isS_lt (Or.inl rfl)) rfl rfl ⟨by decide, by decide⟩ ⟨Nat.zero_le _, Nat.zero_le _⟩ (by simp [Value.category]) dX4_snap_78 rfl rfl ?_
        refine z_iinc (v := nI (p + 1)) (ls' := [some (.ref (n0 + 0)), some (.int (nI i)), some (.int (nI j)), some (.ref (n0 + (cVk j))), some (.ref (n0 + (cVk i))), some (.int (nI (p + 1)))]) C rfl (cv_inc p 1) (by decide) rfl dX4_snap_81 ?_
        refine z_goto (tgt := 57) C dX4_snap_84 (by decide) ?_
        exact z_cast (σ1 := (iterK (cSn κ i j) (p + 1) (cSn0 κ i j), μ, o)) (ls' := [some (.ref (n0 + 0)), some (.int (nI i)), some (.int (nI j)), some (.ref (n0 + (cVk j))), some (.ref (n0 + (cVk i))), some (.int (nI (p + 1)))]) (st' := []) (ih_57) rfl ⟨rfl, rfl, rfl, rfl, rfl, rfl, trivial⟩ rfl
  · exact absurd h0 h_17
set_option maxHeartbeats 4000000 in
set_option maxRecDepth 100000 in
theorem c_X4_drop_1 (l : Launch) (hfl : l.stackTraces = false) (D : DD) (n0 : Nat) (κ μ : KH) (o : Int64) (v : Int32) (hb : ¬ okC κ v) : HT l D n0 yX4_drop cX4_drop 4 (some .int) 7 104 [.ref (n0 + 0), .int v] (κ, μ, o) cIO := by
  refine HT.of (by decide) (by simp [Value.category]) (by simp) ?_
  intro pp ee ss mm aa bb me cd C K hxt
  show ZZ pp l ee (rmx 7 104) ss mm aa bb me cd D n0 127 4 0 0 _ _ 0 [some (.ref (n0 + 0)), some (.int v), none, none] []
  refine z_aload_n C rfl dX4_drop_0 ?_
  refine z_iload_n C rfl dX4_drop_1 ?_
  refine z_callVT (As := [.int v]) (E := cIO) (st := []) C K ok_X4_71 (c_X4_existing_t l hfl D n0 κ μ o v hb) enc_0 (by decide) rfl rfl ⟨by decide, by decide⟩ ⟨by decide, by decide⟩ (by simp [Value.category]) dX4_drop_2 rfl ?_
  exact fun H locs lsA q9 ce hP hS _ h1 h2 h3 => z_out (σ0 := (κ, μ, o)) (a0 := aa) hxt C.2.2.2.2.2.2.2 hP hS h1 h2 h3
set_option maxHeartbeats 4000000 in
set_option maxRecDepth 100000 in
theorem c_X4_drop (l : Launch) (D : DD) (n0 : Nat) (κ μ : KH) (o : Int64) (j : Nat) (hj : j < 16) (h0 : κ (cVk j) 0 ≠ 0) (n : Nat) (hn : κ 108 0 = nI n) (hn8 : n ≤ 8) (hX : ∀ q, isX (κ (cVk j + 1) q)) (hD1 : cD (cDp κ j n) (nQc (cDp κ j n))) : HM l D n0 yX4_drop cX4_drop 4 (some .int) 6 135 [.ref (n0 + 0), .int (nI j)] (κ, μ, o) (some (.int (cDp0 κ j n (cVk j) 5 - cDp1 κ j n (cVk j) 5))) (cServe (cDp κ j n), μ, o) := by
  refine HM.of (by decide) (by simp [Value.category]) (by simp) (Or.inr (Or.inl ⟨_, .int, rfl, rfl, rfl⟩)) ?_
  intro pp ee ss mm aa bb me cd Q C K hret
  show ZZ pp l ee (rmk 6 135) ss mm aa bb me cd D n0 127 4 0 0 Q _ 0 [some (.ref (n0 + 0)), some (.int (nI j)), none, none] []
  have hjl := cVk_lt hj
  have hX0 : ∀ q, isX (cDp0 κ j n (cVk j + 1) q) := fun q => by rw [cDp0_o (by omega) (by omega) (by omega) (by omega) (by omega)]; exact hX q
  refine z_aload_n C rfl dX4_drop_0 ?_
  refine z_iload_n C rfl dX4_drop_1 ?_
  refine z_callV (As := [.int (nI j)]) (r := (some (.ref (n0 + (cVk j))))) (σ1 := (κ, μ, o)) (st := []) (st1 := [.ref (n0 + (cVk j))]) C K ok_X4_71 (c_X4_existing l D n0 κ μ o j (by omega) h0) enc_0 (by decide) rfl rfl ⟨by decide, by decide⟩ ⟨Nat.zero_le _, Nat.zero_le _⟩ (by simp [Value.category]) dX4_drop_2 rfl rfl ?_
  refine z_astore_n (ls' := [some (.ref (n0 + 0)), some (.int (nI j)), some (.ref (n0 + (cVk j))), none]) C (by decide) rfl dX4_drop_5 ?_
  refine z_aload_n C rfl dX4_drop_6 ?_
  refine z_dup C rfl dX4_drop_7 ?_
  refine gf_X4_94 (v := κ 0 11) C rfl dX4_drop_8 ?_
  refine z_aload_n C rfl dX4_drop_11 ?_
  refine gf_X4_34 C dX4_drop_12 ?_
  refine z_iload_n C rfl dX4_drop_15 ?_
  refine z_callV (As := [.int (nI j)]) (r := (some (.int (nI (n - (cRm κ (nI j) n).2))))) (σ1 := (up (cRm κ (nI j) n).1 108 0 (nI (cRm κ (nI j) n).2), μ, o)) (st := [.int (κ 0 11), .ref (n0 + 0)]) (st1 := [.int (nI (n - (cRm κ (nI j) n).2)), .int (κ 0 11), .ref (n0 + 0)]) C K ok_X4_97 (c_X1_removeAllOf l D n0 κ μ o n (nI j) hn hn8) enc_Q (by decide) rfl rfl ⟨by decide, by decide⟩ ⟨Nat.zero_le _, Nat.zero_le _⟩ (by simp [Value.category]) dX4_drop_16 rfl rfl ?_
  refine z_iadd (v := (κ 0 11) + (nI (n - (cRm κ (nI j) n).2))) C rfl dX4_drop_19 ?_
  refine pf_X4_94 (x := (κ 0 11) + (nI (n - (cRm κ (nI j) n).2))) C dX4_drop_20 ?_
  refine z_aload_n C rfl dX4_drop_23 ?_
  refine gf_X4_10 C dX4_drop_24 ?_
  refine z_aload_n C rfl dX4_drop_27 ?_
  refine z_iconst (v := 0) C (by decide +kernel) dX4_drop_28 ?_
  refine z_bipush (v := 40) C (by decide +kernel) dX4_drop_29 ?_
  refine z_callV (As := [.ref (n0 + (cVk j)), .int 0, .int 40]) (r := (some (.int (cDp0 κ j n (cVk j) 5 - cDp1 κ j n (cVk j) 5)))) (σ1 := (cDp1 κ j n, μ, o)) (st := []) (st1 := [.int (cDp0 κ j n (cVk j) 5 - cDp1 κ j n (cVk j) 5)]) C K ok_X4_100 (c_X2_unmap l D n0 (cDp0 κ j n) μ o 1 (cVk j) 0 40 okS1 (isVk hj) (by omega) (by omega) hX0) (enc_S (Or.inl rfl)) (isS_lt (Or.inl rfl)) rfl rfl ⟨by decide, by decide⟩ ⟨Nat.zero_le _, Nat.zero_le _⟩ (by simp [Value.category]) dX4_drop_31 rfl rfl ?_
  refine z_istore_n (ls' := [some (.ref (n0 + 0)), some (.int (nI j)), some (.ref (n0 + (cVk j))), some (.int (cDp0 κ j n (cVk j) 5 - cDp1 κ j n (cVk j) 5))]) C (by decide) rfl dX4_drop_34 ?_
  refine z_aload_n C rfl dX4_drop_35 ?_
  refine gf_X4_10 C dX4_drop_36 ?_
  refine z_aload_n C rfl dX4_drop_39 ?_
  refine z_callV (As := [.ref (n0 + (cVk j))]) (r := none) (σ1 := (cDp κ j n, μ, o)) (st := []) (st1 := []) C K ok_X4_104 (c_X2_remove l D n0 (cDp1 κ j n) μ o 1 (cVk j) okS1 (isVk hj)) (enc_S (Or.inl rfl)) (isS_lt (Or.inl rfl)) rfl rfl ⟨by decide, by decide⟩ ⟨Nat.zero_le _, Nat.zero_le _⟩ (by simp [Value.category]) dX4_drop_40 rfl rfl ?_
  refine z_aload_n C rfl dX4_drop_43 ?_
  refine z_callV (As := []) (r := none) (σ1 := (cServe (cDp κ j n), μ, o)) (st := []) (st1 := []) C K ok_X4_108 (c_X4_serveQueue l D n0 (cDp κ j n) μ o hD1) enc_0 (by decide) rfl rfl ⟨by decide, by decide⟩ ⟨Nat.zero_le _, Nat.zero_le _⟩ (by simp [Value.category]) dX4_drop_44 rfl rfl ?_
  refine z_iload_n C rfl dX4_drop_47 ?_
  exact z_endI (hret _ _ dX4_drop_48) rfl rfl
set_option maxHeartbeats 4000000 in
set_option maxRecDepth 100000 in
theorem c_X4_resize_1 (l : Launch) (hfl : l.stackTraces = false) (D : DD) (n0 : Nat) (κ μ : KH) (o : Int64) (v s : Int32) (hb : ¬ okC κ v) : HT l D n0 yX4_resize cX4_resize 5 (some .int) 7 104 [.ref (n0 + 0), .int v, .int s] (κ, μ, o) cIO := by
  refine HT.of (by decide) (by simp [Value.category]) (by simp) ?_
  intro pp ee ss mm aa bb me cd C K hxt
  show ZZ pp l ee (rmx 7 104) ss mm aa bb me cd D n0 127 5 0 0 _ _ 0 [some (.ref (n0 + 0)), some (.int v), some (.int s), none, none] []
  refine z_aload_n C rfl dX4_resize_0 ?_
  refine z_iload_n C rfl dX4_resize_1 ?_
  refine z_callVT (As := [.int v]) (E := cIO) (st := []) C K ok_X4_71 (c_X4_existing_t l hfl D n0 κ μ o v hb) enc_0 (by decide) rfl rfl ⟨by decide, by decide⟩ ⟨by decide, by decide⟩ (by simp [Value.category]) dX4_resize_2 rfl ?_
  exact fun H locs lsA q9 ce hP hS _ h1 h2 h3 => z_out (σ0 := (κ, μ, o)) (a0 := aa) hxt C.2.2.2.2.2.2.2 hP hS h1 h2 h3
set_option maxHeartbeats 4000000 in
set_option maxRecDepth 100000 in
theorem c_X4_resize_2 (l : Launch) (hfl : l.stackTraces = false) (D : DD) (n0 : Nat) (κ μ : KH) (o : Int64) (j : Nat) (s : Int32) (hj : j < 16) (h0 : κ (cVk j) 0 ≠ 0) (hs : vSiz s = false) : HT l D n0 yX4_resize cX4_resize 5 (some .int) 7 103 [.ref (n0 + 0), .int (nI j), .int s] (κ, μ, o) cIA := by
  refine HT.of (by decide) (by simp [Value.category]) (by simp) ?_
  intro pp ee ss mm aa bb me cd C K hxt
  show ZZ pp l ee (rmx 7 103) ss mm aa bb me cd D n0 127 5 0 0 _ _ 0 [some (.ref (n0 + 0)), some (.int (nI j)), some (.int s), none, none] []
  refine z_aload_n C rfl dX4_resize_0 ?_
  refine z_iload_n C rfl dX4_resize_1 ?_
  refine z_callV (As := [.int (nI j)]) (r := (some (.ref (n0 + (cVk j))))) (σ1 := (κ, μ, o)) (st := []) (st1 := [.ref (n0 + (cVk j))]) C K ok_X4_71 (c_X4_existing l D n0 κ μ o j (by omega) h0) enc_0 (by decide) rfl rfl ⟨by decide, by decide⟩ ⟨Nat.zero_le _, Nat.zero_le _⟩ (by simp [Value.category]) dX4_resize_2 rfl rfl ?_
  refine z_astore_n (ls' := [some (.ref (n0 + 0)), some (.int (nI j)), some (.int s), some (.ref (n0 + (cVk j))), none]) C (by decide) rfl dX4_resize_5 ?_
  refine z_aload_n C rfl dX4_resize_6 ?_
  refine z_iload_n C rfl dX4_resize_7 ?_
  refine z_callVT (As := [.int s]) (E := cIA) (st := []) C K ok_X4_46 (c_X4_requireSize_t l hfl D n0 κ μ o s hs) enc_0 (by decide) rfl rfl ⟨by decide, by decide⟩ ⟨by decide, by decide⟩ (by simp [Value.category]) dX4_resize_8 rfl ?_
  exact fun H locs lsA q9 ce hP hS _ h1 h2 h3 => z_out (σ0 := (κ, μ, o)) (a0 := aa) hxt C.2.2.2.2.2.2.2 hP hS h1 h2 h3
set_option maxHeartbeats 4000000 in
set_option maxRecDepth 100000 in
theorem c_X4_resize_3 (l : Launch) (hfl : l.stackTraces = false) (D : DD) (n0 : Nat) (κ μ : KH) (o : Int64) (j t : Nat) (hj : j < 16) (h0 : κ (cVk j) 0 ≠ 0) (h1 : 1 ≤ t) (h40 : t ≤ 40) (n : Nat) (hn : κ 108 0 = nI n) (hn8 : n ≤ 8) (hw : cWt κ n (nI j) (nI t) 40 = true) : HT l D n0 yX4_resize cX4_resize 5 (some .int) 7 105 [.ref (n0 + 0), .int (nI j), .int (nI t)] (κ, μ, o) cIS := by
  refine HT.of (by decide) (by simp [Value.category]) (by simp) ?_
  intro pp ee ss mm aa bb me cd C K hxt
  show ZZ pp l ee (rmx 7 105) ss mm aa bb me cd D n0 127 5 0 0 _ _ 0 [some (.ref (n0 + 0)), some (.int (nI j)), some (.int (nI t)), none, none] []
  refine z_aload_n C rfl dX4_resize_0 ?_
  refine z_iload_n C rfl dX4_resize_1 ?_
  refine z_callV (As := [.int (nI j)]) (r := (some (.ref (n0 + (cVk j))))) (σ1 := (κ, μ, o)) (st := []) (st1 := [.ref (n0 + (cVk j))]) C K ok_X4_71 (c_X4_existing l D n0 κ μ o j (by omega) h0) enc_0 (by decide) rfl rfl ⟨by decide, by decide⟩ ⟨Nat.zero_le _, Nat.zero_le _⟩ (by simp [Value.category]) dX4_resize_2 rfl rfl ?_
  refine z_astore_n (ls' := [some (.ref (n0 + 0)), some (.int (nI j)), some (.int (nI t)), some (.ref (n0 + (cVk j))), none]) C (by decide) rfl dX4_resize_5 ?_
  refine z_aload_n C rfl dX4_resize_6 ?_
  refine z_iload_n C rfl dX4_resize_7 ?_
  refine z_callV (As := [.int (nI t)]) (r := none) (σ1 := (κ, μ, o)) (st := []) (st1 := []) C K ok_X4_46 (c_X4_requireSize l D n0 κ μ o t (by omega) (by omega)) enc_0 (by decide) rfl rfl ⟨by decide, by decide⟩ ⟨Nat.zero_le _, Nat.zero_le _⟩ (by simp [Value.category]) dX4_resize_8 rfl rfl ?_
  refine z_aload_n C rfl dX4_resize_11 ?_
  refine z_iload_n C rfl dX4_resize_12 ?_
  refine z_iload_n C rfl dX4_resize_13 ?_
  refine z_bipush (v := 40) C (by decide +kernel) dX4_resize_14 ?_
  refine z_callVT (As := [.int (nI j), .int (nI t), .int 40]) (E := cIS) (st := []) C K ok_X4_111 (c_X4_requireNoneWaits_t l hfl D n0 κ μ o n hn hn8 (nI j) (nI t) 40 hw) enc_0 (by decide) rfl rfl ⟨by decide, by decide⟩ ⟨by decide, by decide⟩ (by simp [Value.category]) dX4_resize_16 rfl ?_
  exact fun H locs lsA q9 ce hP hS _ h1 h2 h3 => z_out (σ0 := (κ, μ, o)) (a0 := aa) hxt C.2.2.2.2.2.2.2 hP hS h1 h2 h3
set_option maxHeartbeats 4000000 in
set_option maxRecDepth 100000 in
theorem c_X4_resize (l : Launch) (D : DD) (n0 : Nat) (κ μ : KH) (o : Int64) (j t : Nat) (hj : j < 16) (h0 : κ (cVk j) 0 ≠ 0) (h1 : 1 ≤ t) (h40 : t ≤ 40) (n : Nat) (hn : κ 108 0 = nI n) (hn8 : n ≤ 8) (hw : cWt κ n (nI j) (nI t) 40 = false) (hX : ∀ q, isX (κ (cVk j + 1) q)) (hD1 : cD (up (cUm κ 1 (cVk j) t 40) (cVk j) 2 (nI t)) (nQc (up (cUm κ 1 (cVk j) t 40) (cVk j) 2 (nI t)))) : HM l D n0 yX4_resize cX4_resize 5 (some .int) 6 135 [.ref (n0 + 0), .int (nI j), .int (nI t)] (κ, μ, o) (some (.int (κ (cVk j) 5 - cUm κ 1 (cVk j) t 40 (cVk j) 5))) (cServe (up (cUm κ 1 (cVk j) t 40) (cVk j) 2 (nI t)), μ, o) := by
  refine HM.of (by decide) (by simp [Value.category]) (by simp) (Or.inr (Or.inl ⟨_, .int, rfl, rfl, rfl⟩)) ?_
  intro pp ee ss mm aa bb me cd Q C K hret
  show ZZ pp l ee (rmk 6 135) ss mm aa bb me cd D n0 127 5 0 0 Q _ 0 [some (.ref (n0 + 0)), some (.int (nI j)), some (.int (nI t)), none, none] []
  refine z_aload_n C rfl dX4_resize_0 ?_
  refine z_iload_n C rfl dX4_resize_1 ?_
  refine z_callV (As := [.int (nI j)]) (r := (some (.ref (n0 + (cVk j))))) (σ1 := (κ, μ, o)) (st := []) (st1 := [.ref (n0 + (cVk j))]) C K ok_X4_71 (c_X4_existing l D n0 κ μ o j (by omega) h0) enc_0 (by decide) rfl rfl ⟨by decide, by decide⟩ ⟨Nat.zero_le _, Nat.zero_le _⟩ (by simp [Value.category]) dX4_resize_2 rfl rfl ?_
  refine z_astore_n (ls' := [some (.ref (n0 + 0)), some (.int (nI j)), some (.int (nI t)), some (.ref (n0 + (cVk j))), none]) C (by decide) rfl dX4_resize_5 ?_
  refine z_aload_n C rfl dX4_resize_6 ?_
  refine z_iload_n C rfl dX4_resize_7 ?_
  refine z_callV (As := [.int (nI t)]) (r := none) (σ1 := (κ, μ, o)) (st := []) (st1 := []) C K ok_X4_46 (c_X4_requireSize l D n0 κ μ o t (by omega) (by omega)) enc_0 (by decide) rfl rfl ⟨by decide, by decide⟩ ⟨Nat.zero_le _, Nat.zero_le _⟩ (by simp [Value.category]) dX4_resize_8 rfl rfl ?_
  refine z_aload_n C rfl dX4_resize_11 ?_
  refine z_iload_n C rfl dX4_resize_12 ?_
  refine z_iload_n C rfl dX4_resize_13 ?_
  refine z_bipush (v := 40) C (by decide +kernel) dX4_resize_14 ?_
  refine z_callV (As := [.int (nI j), .int (nI t), .int 40]) (r := none) (σ1 := (κ, μ, o)) (st := []) (st1 := []) C K ok_X4_111 (c_X4_requireNoneWaits l D n0 κ μ o n hn hn8 (nI j) (nI t) 40 hw) enc_0 (by decide) rfl rfl ⟨by decide, by decide⟩ ⟨Nat.zero_le _, Nat.zero_le _⟩ (by simp [Value.category]) dX4_resize_16 rfl rfl ?_
  refine z_aload_n C rfl dX4_resize_19 ?_
  refine gf_X4_10 C dX4_resize_20 ?_
  refine z_aload_n C rfl dX4_resize_23 ?_
  refine z_iload_n C rfl dX4_resize_24 ?_
  refine z_bipush (v := 40) C (by decide +kernel) dX4_resize_25 ?_
  refine z_callV (As := [.ref (n0 + (cVk j)), .int (nI t), .int 40]) (r := (some (.int (κ (cVk j) 5 - cUm κ 1 (cVk j) t 40 (cVk j) 5)))) (σ1 := (cUm κ 1 (cVk j) t 40, μ, o)) (st := []) (st1 := [.int (κ (cVk j) 5 - cUm κ 1 (cVk j) t 40 (cVk j) 5)]) C K ok_X4_100 (c_X2_unmap l D n0 κ μ o 1 (cVk j) t 40 (Or.inl rfl) (isVk hj) (by omega) (by omega) hX) (enc_S (Or.inl rfl)) (isS_lt (Or.inl rfl)) rfl rfl ⟨by decide, by decide⟩ ⟨Nat.zero_le _, Nat.zero_le _⟩ (by simp [Value.category]) dX4_resize_27 rfl rfl ?_
  refine z_istore (ls' := [some (.ref (n0 + 0)), some (.int (nI j)), some (.int (nI t)), some (.ref (n0 + (cVk j))), some (.int (κ (cVk j) 5 - cUm κ 1 (cVk j) t 40 (cVk j) 5))]) C (by decide) rfl dX4_resize_30 ?_
  refine z_aload_n C rfl dX4_resize_32 ?_
  refine z_iload_n C rfl dX4_resize_33 ?_
  refine pf_X4_74 (x := nI t) C (isVk hj) dX4_resize_34 ?_
  refine z_aload_n C rfl dX4_resize_37 ?_
  refine z_callV (As := []) (r := none) (σ1 := (cServe (up (cUm κ 1 (cVk j) t 40) (cVk j) 2 (nI t)), μ, o)) (st := []) (st1 := []) C K ok_X4_108 (c_X4_serveQueue l D n0 (up (cUm κ 1 (cVk j) t 40) (cVk j) 2 (nI t)) μ o hD1) enc_0 (by decide) rfl rfl ⟨by decide, by decide⟩ ⟨Nat.zero_le _, Nat.zero_le _⟩ (by simp [Value.category]) dX4_resize_38 rfl rfl ?_
  refine z_iload C rfl dX4_resize_41 ?_
  exact z_endI (hret _ _ dX4_resize_43) rfl rfl
set_option maxHeartbeats 4000000 in
set_option maxRecDepth 100000 in
theorem c_X4_write_1 (l : Launch) (hfl : l.stackTraces = false) (D : DD) (n0 : Nat) (κ μ : KH) (o : Int64) (v w x : Int32) (hb : ¬ okC κ v) : HT l D n0 yX4_write cX4_write 6 (some .int) 7 104 [.ref (n0 + 0), .int v, .int w, .int x] (κ, μ, o) cIO := by
  refine HT.of (by decide) (by simp [Value.category]) (by simp) ?_
  intro pp ee ss mm aa bb me cd C K hxt
  show ZZ pp l ee (rmx 7 104) ss mm aa bb me cd D n0 127 6 0 0 _ _ 0 [some (.ref (n0 + 0)), some (.int v), some (.int w), some (.int x), none, none] []
  refine z_aload_n C rfl dX4_write_0 ?_
  refine z_iload_n C rfl dX4_write_1 ?_
  refine z_callVT (As := [.int v]) (E := cIO) (st := []) C K ok_X4_71 (c_X4_existing_t l hfl D n0 κ μ o v hb) enc_0 (by decide) rfl rfl ⟨by decide, by decide⟩ ⟨by decide, by decide⟩ (by simp [Value.category]) dX4_write_2 rfl ?_
  exact fun H locs lsA q9 ce hP hS _ h1 h2 h3 => z_out (σ0 := (κ, μ, o)) (a0 := aa) hxt C.2.2.2.2.2.2.2 hP hS h1 h2 h3
set_option maxHeartbeats 4000000 in
set_option maxRecDepth 100000 in
theorem c_X4_write_2 (l : Launch) (hfl : l.stackTraces = false) (D : DD) (n0 : Nat) (κ μ : KH) (o : Int64) (j : Nat) (w x : Int32) (hj : j < 16) (h0 : κ (cVk j) 0 ≠ 0) (z : Nat) (hz : κ (cVk j) 2 = nI z) (hz40 : z ≤ 40) (hw : ¬ ∃ c : Nat, w = nI c ∧ c < 4 * z) : HT l D n0 yX4_write cX4_write 6 (some .int) 7 104 [.ref (n0 + 0), .int (nI j), .int w, .int x] (κ, μ, o) cIO := by
  refine HT.of (by decide) (by simp [Value.category]) (by simp) ?_
  intro pp ee ss mm aa bb me cd C K hxt
  show ZZ pp l ee (rmx 7 104) ss mm aa bb me cd D n0 127 6 0 0 _ _ 0 [some (.ref (n0 + 0)), some (.int (nI j)), some (.int w), some (.int x), none, none] []
  refine z_aload_n C rfl dX4_write_0 ?_
  refine z_iload_n C rfl dX4_write_1 ?_
  refine z_callV (As := [.int (nI j)]) (r := (some (.ref (n0 + (cVk j))))) (σ1 := (κ, μ, o)) (st := []) (st1 := [.ref (n0 + (cVk j))]) C K ok_X4_71 (c_X4_existing l D n0 κ μ o j (by omega) h0) enc_0 (by decide) rfl rfl ⟨by decide, by decide⟩ ⟨Nat.zero_le _, Nat.zero_le _⟩ (by simp [Value.category]) dX4_write_2 rfl rfl ?_
  refine z_astore (ls' := [some (.ref (n0 + 0)), some (.int (nI j)), some (.int w), some (.int x), some (.ref (n0 + (cVk j))), none]) C (by decide) rfl dX4_write_5 ?_
  refine z_aload_n C rfl dX4_write_7 ?_
  refine z_aload C rfl dX4_write_8 ?_
  refine z_iload_n C rfl dX4_write_10 ?_
  refine z_callVT (As := [.ref (n0 + (cVk j)), .int w]) (E := cIO) (st := []) C K ok_X4_115 (c_X4_requireWord_t l hfl D n0 κ μ o (cVk j) z w (isVk hj) hz hz40 hw) enc_0 (by decide) rfl rfl ⟨by decide, by decide⟩ ⟨by decide, by decide⟩ (by simp [Value.category]) dX4_write_11 rfl ?_
  exact fun H locs lsA q9 ce hP hS _ h1 h2 h3 => z_out (σ0 := (κ, μ, o)) (a0 := aa) hxt C.2.2.2.2.2.2.2 hP hS h1 h2 h3
set_option maxHeartbeats 4000000 in
set_option maxRecDepth 100000 in
theorem c_X4_read_1 (l : Launch) (hfl : l.stackTraces = false) (D : DD) (n0 : Nat) (κ μ : KH) (o : Int64) (v w : Int32) (hb : ¬ okC κ v) : HT l D n0 yX4_read cX4_read 4 (some .int) 7 104 [.ref (n0 + 0), .int v, .int w] (κ, μ, o) cIO := by
  refine HT.of (by decide) (by simp [Value.category]) (by simp) ?_
  intro pp ee ss mm aa bb me cd C K hxt
  show ZZ pp l ee (rmx 7 104) ss mm aa bb me cd D n0 127 4 0 0 _ _ 0 [some (.ref (n0 + 0)), some (.int v), some (.int w), none] []
  refine z_aload_n C rfl dX4_read_0 ?_
  refine z_iload_n C rfl dX4_read_1 ?_
  refine z_callVT (As := [.int v]) (E := cIO) (st := []) C K ok_X4_71 (c_X4_existing_t l hfl D n0 κ μ o v hb) enc_0 (by decide) rfl rfl ⟨by decide, by decide⟩ ⟨by decide, by decide⟩ (by simp [Value.category]) dX4_read_2 rfl ?_
  exact fun H locs lsA q9 ce hP hS _ h1 h2 h3 => z_out (σ0 := (κ, μ, o)) (a0 := aa) hxt C.2.2.2.2.2.2.2 hP hS h1 h2 h3
set_option maxHeartbeats 4000000 in
set_option maxRecDepth 100000 in
theorem c_X4_read_2 (l : Launch) (hfl : l.stackTraces = false) (D : DD) (n0 : Nat) (κ μ : KH) (o : Int64) (j : Nat) (w : Int32) (hj : j < 16) (h0 : κ (cVk j) 0 ≠ 0) (z : Nat) (hz : κ (cVk j) 2 = nI z) (hz40 : z ≤ 40) (hw : ¬ ∃ c : Nat, w = nI c ∧ c < 4 * z) : HT l D n0 yX4_read cX4_read 4 (some .int) 7 104 [.ref (n0 + 0), .int (nI j), .int w] (κ, μ, o) cIO := by
  refine HT.of (by decide) (by simp [Value.category]) (by simp) ?_
  intro pp ee ss mm aa bb me cd C K hxt
  show ZZ pp l ee (rmx 7 104) ss mm aa bb me cd D n0 127 4 0 0 _ _ 0 [some (.ref (n0 + 0)), some (.int (nI j)), some (.int w), none] []
  refine z_aload_n C rfl dX4_read_0 ?_
  refine z_iload_n C rfl dX4_read_1 ?_
  refine z_callV (As := [.int (nI j)]) (r := (some (.ref (n0 + (cVk j))))) (σ1 := (κ, μ, o)) (st := []) (st1 := [.ref (n0 + (cVk j))]) C K ok_X4_71 (c_X4_existing l D n0 κ μ o j (by omega) h0) enc_0 (by decide) rfl rfl ⟨by decide, by decide⟩ ⟨Nat.zero_le _, Nat.zero_le _⟩ (by simp [Value.category]) dX4_read_2 rfl rfl ?_
  refine z_astore_n (ls' := [some (.ref (n0 + 0)), some (.int (nI j)), some (.int w), some (.ref (n0 + (cVk j)))]) C (by decide) rfl dX4_read_5 ?_
  refine z_aload_n C rfl dX4_read_6 ?_
  refine z_aload_n C rfl dX4_read_7 ?_
  refine z_iload_n C rfl dX4_read_8 ?_
  refine z_callVT (As := [.ref (n0 + (cVk j)), .int w]) (E := cIO) (st := []) C K ok_X4_115 (c_X4_requireWord_t l hfl D n0 κ μ o (cVk j) z w (isVk hj) hz hz40 hw) enc_0 (by decide) rfl rfl ⟨by decide, by decide⟩ ⟨by decide, by decide⟩ (by simp [Value.category]) dX4_read_9 rfl ?_
  exact fun H locs lsA q9 ce hP hS _ h1 h2 h3 => z_out (σ0 := (κ, μ, o)) (a0 := aa) hxt C.2.2.2.2.2.2.2 hP hS h1 h2 h3
set_option maxHeartbeats 4000000 in
set_option maxRecDepth 100000 in
theorem c_X4_read (l : Launch) (D : DD) (n0 : Nat) (κ μ : KH) (o : Int64) (j w : Nat) (hj : j < 16) (h0 : κ (cVk j) 0 ≠ 0) (z : Nat) (hz : κ (cVk j) 2 = nI z) (hz40 : z ≤ 40) (hw : w < 4 * z) (hX : ∀ q, isX (κ (cVk j + 1) q)) : HM l D n0 yX4_read cX4_read 4 (some .int) 3 65 [.ref (n0 + 0), .int (nI j), .int (nI w)] (κ, μ, o) (some (.int (cWord κ (cVk j) w))) (κ, μ, o) := by
  refine HM.of (by decide) (by simp [Value.category]) (by simp) (Or.inr (Or.inl ⟨_, .int, rfl, rfl, rfl⟩)) ?_
  intro pp ee ss mm aa bb me cd Q C K hret
  show ZZ pp l ee (rmk 3 65) ss mm aa bb me cd D n0 127 4 0 0 Q _ 0 [some (.ref (n0 + 0)), some (.int (nI j)), some (.int (nI w)), none] []
  refine z_aload_n C rfl dX4_read_0 ?_
  refine z_iload_n C rfl dX4_read_1 ?_
  refine z_callV (As := [.int (nI j)]) (r := (some (.ref (n0 + (cVk j))))) (σ1 := (κ, μ, o)) (st := []) (st1 := [.ref (n0 + (cVk j))]) C K ok_X4_71 (c_X4_existing l D n0 κ μ o j (by omega) h0) enc_0 (by decide) rfl rfl ⟨by decide, by decide⟩ ⟨Nat.zero_le _, Nat.zero_le _⟩ (by simp [Value.category]) dX4_read_2 rfl rfl ?_
  refine z_astore_n (ls' := [some (.ref (n0 + 0)), some (.int (nI j)), some (.int (nI w)), some (.ref (n0 + (cVk j)))]) C (by decide) rfl dX4_read_5 ?_
  refine z_aload_n C rfl dX4_read_6 ?_
  refine z_aload_n C rfl dX4_read_7 ?_
  refine z_iload_n C rfl dX4_read_8 ?_
  refine z_callV (As := [.ref (n0 + (cVk j)), .int (nI w)]) (r := none) (σ1 := (κ, μ, o)) (st := []) (st1 := []) C K ok_X4_115 (c_X4_requireWord l D n0 κ μ o (cVk j) w z (isVk hj) hz hz40 (by omega)) enc_0 (by decide) rfl rfl ⟨by decide, by decide⟩ ⟨Nat.zero_le _, Nat.zero_le _⟩ (by simp [Value.category]) dX4_read_9 rfl rfl ?_
  refine z_aload_n C rfl dX4_read_12 ?_
  refine z_aload_n C rfl dX4_read_13 ?_
  refine z_iload_n C rfl dX4_read_14 ?_
  refine z_callV (As := [.ref (n0 + (cVk j)), .int (nI w)]) (r := (some (.int (cWord κ (cVk j) w)))) (σ1 := (κ, μ, o)) (st := []) (st1 := [.int (cWord κ (cVk j) w)]) C K ok_X4_144 (c_X4_wordOf l D n0 κ μ o (cVk j) w (isVk hj) (by omega) (hX _)) enc_0 (by decide) rfl rfl ⟨by decide, by decide⟩ ⟨Nat.zero_le _, Nat.zero_le _⟩ (by simp [Value.category]) dX4_read_15 rfl rfl ?_
  exact z_endI (hret _ _ dX4_read_18) rfl rfl
set_option maxHeartbeats 4000000 in
set_option maxRecDepth 100000 in
theorem c_X4_writeNeeding (l : Launch) (D : DD) (n0 : Nat) (κ μ : KH) (o : Int64) (k : Nat) (hk : isV k) (v : Int32) (w : Nat) (x : Int32) (hw : w < 160) (hJ : cJ κ) (n : Nat) (hn : κ 108 0 = nI n) (hn8 : n ≤ 8) : HM l D n0 yX4_writeNeeding cX4_writeNeeding 5 (some .int) 4 92 [.ref (n0 + 0), .ref (n0 + k), .int v, .int (nI w), .int x] (κ, μ, o) (some (.int ((cWn κ k v w x).2))) ((cWn κ k v w x).1, μ, o) := by
  refine HM.of (by decide) (by simp [Value.category]) (by simp) (Or.inr (Or.inl ⟨_, .int, rfl, rfl, rfl⟩)) ?_
  intro pp ee ss mm aa bb me cd Q C K hret
  show ZZ pp l ee (rmk 4 92) ss mm aa bb me cd D n0 127 5 0 0 Q _ 0 [some (.ref (n0 + 0)), some (.ref (n0 + k)), some (.int v), some (.int (nI w)), some (.int x)] []
  have hQn : nQc κ = n := by unfold nQc; rw [hn]; exact tn_nI (by omega)
  have hfm := cFM_le κ (nC κ)
  have hn97 : nC κ < 97 := hJ.1.2
  refine z_aload_n C rfl dX4_writeNeeding_0 ?_
  refine gf_X4_119 (v := κ 0 7) C rfl dX4_writeNeeding_1 ?_
  refine z_iconst (v := 1) C (by decide +kernel) dX4_writeNeeding_4 ?_
  refine z_icmp_ne (tgt := 17) C dX4_writeNeeding_5 (by decide) (fun h_5 => ?_) (fun h_5 => ?_)
  · skip
    refine z_aload_n C rfl dX4_writeNeeding_17 ?_
    refine gf_X4_27 C dX4_writeNeeding_18 ?_
    refine z_callV (As := []) (r := (some (.int (nI (cFM κ (nC κ)))))) (σ1 := (κ, μ, o)) (st := []) (st1 := [.int (nI (cFM κ (nC κ)))]) C K ok_X4_264 (c_X0_countFree l D n0 κ μ o (nC κ) hJ.1.1 (by omega)) enc_P (by decide) rfl rfl ⟨by decide, by decide⟩ ⟨Nat.zero_le _, Nat.zero_le _⟩ (by simp [Value.category]) dX4_writeNeeding_21 rfl rfl ?_
    refine z_if_le (tgt := 41) C dX4_writeNeeding_24 (by decide) (fun h_24 => ?_) (fun h_24 => ?_)
    · have g_24 := cv_le (a := cFM κ (nC κ)) (b := 0) (by omega) (by omega) h_24
      have hf : cFM κ (nC κ) = 0 := cfm_0 (by omega) h_24
      refine z_aload_n C rfl dX4_writeNeeding_41 ?_
      refine gf_X4_119 (v := κ 0 7) C rfl dX4_writeNeeding_42 ?_
      refine z_if_ne (tgt := 82) C dX4_writeNeeding_45 (by decide) (fun h_45 => ?_) (fun h_45 => ?_)
      · skip
        refine z_aload_n C rfl dX4_writeNeeding_82 ?_
        refine z_iconst (v := 2) C (by decide +kernel) dX4_writeNeeding_83 ?_
        refine pf_X4_119 (x := 2) C dX4_writeNeeding_84 ?_
        refine z_iconst (v := (-1)) C (by decide +kernel) dX4_writeNeeding_87 ?_
        exact z_endI (hret _ _ dX4_writeNeeding_88) (ri (cWn_4 h_5 hf (fun q => absurd q.1 h_45))) (cs (cWn_4 h_5 hf (fun q => absurd q.1 h_45)))
      · skip
        refine z_aload_n C rfl dX4_writeNeeding_48 ?_
        refine gf_X4_210 (v := κ 0 8) C rfl dX4_writeNeeding_49 ?_
        refine z_if_le (tgt := 82) C dX4_writeNeeding_52 (by decide) (fun h_52 => ?_) (fun h_52 => ?_)
        · skip
          refine z_aload_n C rfl dX4_writeNeeding_82 ?_
          refine z_iconst (v := 2) C (by decide +kernel) dX4_writeNeeding_83 ?_
          refine pf_X4_119 (x := 2) C dX4_writeNeeding_84 ?_
          refine z_iconst (v := (-1)) C (by decide +kernel) dX4_writeNeeding_87 ?_
          exact z_endI (hret _ _ dX4_writeNeeding_88) (ri (cWn_4 h_5 hf (fun q => absurd q.2 (Int32.not_lt.mpr h_52)))) (cs (cWn_4 h_5 hf (fun q => absurd q.2 (Int32.not_lt.mpr h_52))))
        · skip
          refine z_aload_n C rfl dX4_writeNeeding_55 ?_
          refine z_iconst (v := 1) C (by decide +kernel) dX4_writeNeeding_56 ?_
          refine pf_X4_119 (x := 1) C dX4_writeNeeding_57 ?_
          refine z_aload_n C rfl dX4_writeNeeding_60 ?_
          refine z_aload_n C rfl dX4_writeNeeding_61 ?_
          refine gf_X4_220 (v := κ 0 10) C rfl dX4_writeNeeding_62 ?_
          refine z_aload_n C rfl dX4_writeNeeding_65 ?_
          refine gf_X4_210 (v := κ 0 8) C rfl dX4_writeNeeding_66 ?_
          refine z_iadd (v := (κ 0 10) + (κ 0 8)) C rfl dX4_writeNeeding_69 ?_
          refine pf_X4_223 (x := (κ 0 10) + (κ 0 8)) C dX4_writeNeeding_70 ?_
          refine z_aload_n C rfl dX4_writeNeeding_73 ?_
          refine z_iload_n C rfl dX4_writeNeeding_74 ?_
          refine z_iload_n C rfl dX4_writeNeeding_75 ?_
          refine z_iload C rfl dX4_writeNeeding_76 ?_
          by_cases h8 : n = 8
          · subst h8
            refine z_callV (As := [.int v, .int (nI w), .int x]) (r := (some (.int ((-1))))) (σ1 := (up (up κ 0 7 1) 0 9 ((κ 0 10) + (κ 0 8)), μ, o)) (st := []) (st1 := [.int ((-1))]) C K ok_X4_126 (c_X4_enqueue_n l D n0 (up (up κ 0 7 1) 0 9 ((κ 0 10) + (κ 0 8))) μ o v (nI w) x ((show up (up κ 0 7 1) 0 9 ((κ 0 10) + (κ 0 8)) 108 0 = κ 108 0 from rfl).trans hn)) enc_0 (by decide) rfl rfl ⟨by decide, by decide⟩ ⟨Nat.zero_le _, Nat.zero_le _⟩ (by simp [Value.category]) dX4_writeNeeding_78 rfl rfl ?_
            exact z_endI (hret _ _ dX4_writeNeeding_81) (ri ((cWn_3 h_5 hf h_45 (Int32.not_le.mp h_52)).trans (cEn_e (κ := up (up κ 0 7 1) 0 9 (κ 0 10 + κ 0 8)) ((show nQc (up (up κ 0 7 1) 0 9 (κ 0 10 + κ 0 8)) = nQc κ from rfl).trans hQn)))) (cs ((cWn_3 h_5 hf h_45 (Int32.not_le.mp h_52)).trans (cEn_e (κ := up (up κ 0 7 1) 0 9 (κ 0 10 + κ 0 8)) ((show nQc (up (up κ 0 7 1) 0 9 (κ 0 10 + κ 0 8)) = nQc κ from rfl).trans hQn))))
          · skip
            refine z_callV (As := [.int v, .int (nI w), .int x]) (r := (some (.int 3))) (σ1 := (up (cPut (up (up κ 0 7 1) 0 9 ((κ 0 10) + (κ 0 8))) n v (nI w) x) 108 0 (nI (n + 1)), μ, o)) (st := []) (st1 := [.int 3]) C K ok_X4_126 (c_X4_enqueue l D n0 (up (up κ 0 7 1) 0 9 ((κ 0 10) + (κ 0 8))) μ o n v (nI w) x ((show up (up κ 0 7 1) 0 9 ((κ 0 10) + (κ 0 8)) 108 0 = κ 108 0 from rfl).trans hn) (by omega)) enc_0 (by decide) rfl rfl ⟨by decide, by decide⟩ ⟨Nat.zero_le _, Nat.zero_le _⟩ (by simp [Value.category]) dX4_writeNeeding_78 rfl rfl ?_
            exact z_endI (hret _ _ dX4_writeNeeding_81) (ri ((cWn_3 h_5 hf h_45 (Int32.not_le.mp h_52)).trans (cEn_l (κ := up (up κ 0 7 1) 0 9 (κ 0 10 + κ 0 8)) ((show nQc (up (up κ 0 7 1) 0 9 (κ 0 10 + κ 0 8)) = nQc κ from rfl).trans hQn) h8))) (cs ((cWn_3 h_5 hf h_45 (Int32.not_le.mp h_52)).trans (cEn_l (κ := up (up κ 0 7 1) 0 9 (κ 0 10 + κ 0 8)) ((show nQc (up (up κ 0 7 1) 0 9 (κ 0 10 + κ 0 8)) = nQc κ from rfl).trans hQn) h8)))
    · have g_24 := cv_nle (a := cFM κ (nC κ)) (b := 0) (by omega) (by omega) h_24
      have hf : cFM κ (nC κ) ≠ 0 := cfm_n h_24
      refine z_aload_n C rfl dX4_writeNeeding_27 ?_
      refine z_iconst (v := 0) C (by decide +kernel) dX4_writeNeeding_28 ?_
      refine pf_X4_119 (x := 0) C dX4_writeNeeding_29 ?_
      refine z_aload_n C rfl dX4_writeNeeding_32 ?_
      refine z_aload_n C rfl dX4_writeNeeding_33 ?_
      refine z_iload_n C rfl dX4_writeNeeding_34 ?_
      refine z_iload C rfl dX4_writeNeeding_35 ?_
      refine z_callV (As := [.ref (n0 + k), .int (nI w), .int x]) (r := (some (.int (cPerR (up κ 0 7 0) k w)))) (σ1 := (cPerf (up κ 0 7 0) k w x, μ, o)) (st := []) (st1 := [.int (cPerR (up κ 0 7 0) k w)]) C K ok_X4_134 (c_X4_perform l D n0 (up κ 0 7 0) μ o k w x hk (by omega) (cJ_up0 hJ) (fun _ => by rw [cFM_cg (ν := κ) (up_cell (by decide)) (up_cell (by decide)) (up_cell (by decide)), nC_cg (ν := κ) (up_cell (by decide))]; exact hf)) enc_0 (by decide) rfl rfl ⟨by decide, by decide⟩ ⟨Nat.zero_le _, Nat.zero_le _⟩ (by simp [Value.category]) dX4_writeNeeding_37 rfl rfl ?_
      exact z_endI (hret _ _ dX4_writeNeeding_40) (ri (cWn_2 h_5 hf)) (cs (cWn_2 h_5 hf))
  · skip
    refine z_aload_n C rfl dX4_writeNeeding_8 ?_
    refine z_iload_n C rfl dX4_writeNeeding_9 ?_
    refine z_iload_n C rfl dX4_writeNeeding_10 ?_
    refine z_iload C rfl dX4_writeNeeding_11 ?_
    by_cases h8 : n = 8
    · subst h8
      refine z_callV (As := [.int v, .int (nI w), .int x]) (r := (some (.int ((-1))))) (σ1 := (κ, μ, o)) (st := []) (st1 := [.int ((-1))]) C K ok_X4_126 (c_X4_enqueue_n l D n0 κ μ o v (nI w) x hn) enc_0 (by decide) rfl rfl ⟨by decide, by decide⟩ ⟨Nat.zero_le _, Nat.zero_le _⟩ (by simp [Value.category]) dX4_writeNeeding_13 rfl rfl ?_
      exact z_endI (hret _ _ dX4_writeNeeding_16) (ri ((cWn_1 h_5).trans (cEn_e (κ := κ) hQn))) (cs ((cWn_1 h_5).trans (cEn_e (κ := κ) hQn)))
    · skip
      refine z_callV (As := [.int v, .int (nI w), .int x]) (r := (some (.int 3))) (σ1 := (up (cPut κ n v (nI w) x) 108 0 (nI (n + 1)), μ, o)) (st := []) (st1 := [.int 3]) C K ok_X4_126 (c_X4_enqueue l D n0 κ μ o n v (nI w) x hn (by omega)) enc_0 (by decide) rfl rfl ⟨by decide, by decide⟩ ⟨Nat.zero_le _, Nat.zero_le _⟩ (by simp [Value.category]) dX4_writeNeeding_13 rfl rfl ?_
      exact z_endI (hret _ _ dX4_writeNeeding_16) (ri ((cWn_1 h_5).trans (cEn_l (κ := κ) hQn h8))) (cs ((cWn_1 h_5).trans (cEn_l (κ := κ) hQn h8)))
set_option maxHeartbeats 4000000 in
set_option maxRecDepth 100000 in
theorem c_X4_write (l : Launch) (D : DD) (n0 : Nat) (κ μ : KH) (o : Int64) (j w : Nat) (x : Int32) (hj : j < 16) (h0 : κ (cVk j) 0 ≠ 0) (z : Nat) (hz : κ (cVk j) 2 = nI z) (hz40 : z ≤ 40) (hw : w < 4 * z) (hJ : cJ κ) (n : Nat) (hn : κ 108 0 = nI n) (hn8 : n ≤ 8) : HM l D n0 yX4_write cX4_write 6 (some .int) 5 116 [.ref (n0 + 0), .int (nI j), .int (nI w), .int x] (κ, μ, o) (some (.int ((cWr κ (cVk j) (nI j) w x).2))) ((cWr κ (cVk j) (nI j) w x).1, μ, o) := by
  refine HM.of (by decide) (by simp [Value.category]) (by simp) (Or.inr (Or.inl ⟨_, .int, rfl, rfl, rfl⟩)) ?_
  intro pp ee ss mm aa bb me cd Q C K hret
  show ZZ pp l ee (rmk 5 116) ss mm aa bb me cd D n0 127 6 0 0 Q _ 0 [some (.ref (n0 + 0)), some (.int (nI j)), some (.int (nI w)), some (.int x), none, none] []
  have hQn : nQc κ = n := by unfold nQc; rw [hn]; exact tn_nI (by omega)
  have hX := hJ.2.2.2 _ (isVk hj)
  refine z_aload_n C rfl dX4_write_0 ?_
  refine z_iload_n C rfl dX4_write_1 ?_
  refine z_callV (As := [.int (nI j)]) (r := (some (.ref (n0 + (cVk j))))) (σ1 := (κ, μ, o)) (st := []) (st1 := [.ref (n0 + (cVk j))]) C K ok_X4_71 (c_X4_existing l D n0 κ μ o j (by omega) h0) enc_0 (by decide) rfl rfl ⟨by decide, by decide⟩ ⟨Nat.zero_le _, Nat.zero_le _⟩ (by simp [Value.category]) dX4_write_2 rfl rfl ?_
  refine z_astore (ls' := [some (.ref (n0 + 0)), some (.int (nI j)), some (.int (nI w)), some (.int x), some (.ref (n0 + (cVk j))), none]) C (by decide) rfl dX4_write_5 ?_
  refine z_aload_n C rfl dX4_write_7 ?_
  refine z_aload C rfl dX4_write_8 ?_
  refine z_iload_n C rfl dX4_write_10 ?_
  refine z_callV (As := [.ref (n0 + (cVk j)), .int (nI w)]) (r := none) (σ1 := (κ, μ, o)) (st := []) (st1 := []) C K ok_X4_115 (c_X4_requireWord l D n0 κ μ o (cVk j) w z (isVk hj) hz hz40 (by omega)) enc_0 (by decide) rfl rfl ⟨by decide, by decide⟩ ⟨Nat.zero_le _, Nat.zero_le _⟩ (by simp [Value.category]) dX4_write_11 rfl rfl ?_
  refine z_iload_n C rfl dX4_write_14 ?_
  refine z_iconst (v := 4) C (by decide +kernel) dX4_write_15 ?_
  refine z_idiv (v := nI (w / 4)) C (by decide +kernel) (cv_div (by omega) (by decide) (by decide)) dX4_write_16 ?_
  refine z_istore (ls' := [some (.ref (n0 + 0)), some (.int (nI j)), some (.int (nI w)), some (.int x), some (.ref (n0 + (cVk j))), some (.int (nI (w / 4)))]) C (by decide) rfl dX4_write_17 ?_
  refine z_aload_n C rfl dX4_write_19 ?_
  refine gf_X4_119 (v := κ 0 7) C rfl dX4_write_20 ?_
  refine z_iconst (v := 1) C (by decide +kernel) dX4_write_23 ?_
  refine z_icmp_ne (tgt := 52) C dX4_write_24 (by decide) (fun h_24 => ?_) (fun h_24 => ?_)
  · skip
    refine z_aload_n C rfl dX4_write_52 ?_
    refine z_aload C rfl dX4_write_53 ?_
    refine z_iload C rfl dX4_write_55 ?_
    refine z_callV (As := [.ref (n0 + (cVk j)), .int (nI (w / 4))]) (r := (some (.int (b2i (cNeed κ (cVk j) (w / 4)))))) (σ1 := (κ, μ, o)) (st := []) (st1 := [.int (b2i (cNeed κ (cVk j) (w / 4)))]) C K ok_X4_130 (c_X4_needsExtent l D n0 κ μ o (cVk j) (w / 4) (isVk hj) (by omega) (hX _)) enc_0 (by decide) rfl rfl ⟨by decide, by decide⟩ ⟨Nat.zero_le _, Nat.zero_le _⟩ (by simp [Value.category]) dX4_write_57 rfl rfl ?_
    refine z_if_ne (tgt := 72) C dX4_write_60 (by decide) (fun h_60 => ?_) (fun h_60 => ?_)
    · have g_60 := cv_b1 h_60
      refine z_aload_n C rfl dX4_write_72 ?_
      refine z_aload C rfl dX4_write_73 ?_
      refine z_iload C rfl dX4_write_75 ?_
      refine z_callV (As := [.ref (n0 + (cVk j)), .int (nI (w / 4))]) (r := (some (.int (b2i (cOver κ (cVk j) (w / 4)))))) (σ1 := (κ, μ, o)) (st := []) (st1 := [.int (b2i (cOver κ (cVk j) (w / 4)))]) C K ok_X4_137 (c_X4_isOver l D n0 κ μ o (cVk j) (w / 4) (isVk hj) (by omega)) enc_0 (by decide) rfl rfl ⟨by decide, by decide⟩ ⟨Nat.zero_le _, Nat.zero_le _⟩ (by simp [Value.category]) dX4_write_77 rfl rfl ?_
      refine z_if_eq (tgt := 85) C dX4_write_80 (by decide) (fun h_80 => ?_) (fun h_80 => ?_)
      · have g_80 := cv_b0 h_80
        refine z_aload_n C rfl dX4_write_85 ?_
        refine z_aload C rfl dX4_write_86 ?_
        refine z_iload_n C rfl dX4_write_88 ?_
        refine z_iload_n C rfl dX4_write_89 ?_
        refine z_iload_n C rfl dX4_write_90 ?_
        refine z_callV (As := [.ref (n0 + (cVk j)), .int (nI j), .int (nI w), .int x]) (r := (some (.int ((cWn κ (cVk j) (nI j) w x).2)))) (σ1 := ((cWn κ (cVk j) (nI j) w x).1, μ, o)) (st := []) (st1 := [.int ((cWn κ (cVk j) (nI j) w x).2)]) C K ok_X4_140 (c_X4_writeNeeding l D n0 κ μ o (cVk j) (isVk hj) (nI j) w x (by omega) hJ n hn hn8) enc_0 (by decide) rfl rfl ⟨by decide, by decide⟩ ⟨Nat.zero_le _, Nat.zero_le _⟩ (by simp [Value.category]) dX4_write_91 rfl rfl ?_
        exact z_endI (hret _ _ dX4_write_94) (by rw [cWr_4 (fun q => absurd q.1 h_24) hQn g_60 g_80]) (st_k (by rw [cWr_4 (fun q => absurd q.1 h_24) hQn g_60 g_80]))
      · have g_80 := cv_b1 h_80
        refine z_iconst (v := (-1)) C (by decide +kernel) dX4_write_83 ?_
        exact z_endI (hret _ _ dX4_write_84) (ri (cWr_3 (fun q => absurd q.1 h_24) hQn g_60 g_80)) (cs (cWr_3 (fun q => absurd q.1 h_24) hQn g_60 g_80))
    · have g_60 := cv_b0 h_60
      refine z_aload_n C rfl dX4_write_63 ?_
      refine z_aload C rfl dX4_write_64 ?_
      refine z_iload_n C rfl dX4_write_66 ?_
      refine z_iload_n C rfl dX4_write_67 ?_
      refine z_callV (As := [.ref (n0 + (cVk j)), .int (nI w), .int x]) (r := (some (.int (cPerR κ (cVk j) w)))) (σ1 := (cPerf κ (cVk j) w x, μ, o)) (st := []) (st1 := [.int (cPerR κ (cVk j) w)]) C K ok_X4_134 (c_X4_perform l D n0 κ μ o (cVk j) w x (isVk hj) (by omega) hJ (fun q => absurd q (by rw [g_60]; decide))) enc_0 (by decide) rfl rfl ⟨by decide, by decide⟩ ⟨Nat.zero_le _, Nat.zero_le _⟩ (by simp [Value.category]) dX4_write_68 rfl rfl ?_
      exact z_endI (hret _ _ dX4_write_71) (ri (cWr_2 (fun q => absurd q.1 h_24) hQn g_60)) (cs (cWr_2 (fun q => absurd q.1 h_24) hQn g_60))
  · skip
    refine z_aload_n C rfl dX4_write_27 ?_
    refine gf_X4_34 C dX4_write_28 ?_
    refine z_iload_n C rfl dX4_write_31 ?_
    refine z_iload C rfl dX4_write_32 ?_
    refine z_iload C rfl dX4_write_34 ?_
    refine z_iconst (v := 1) C (by decide +kernel) dX4_write_36 ?_
    refine z_iadd (v := nI (w / 4 + 1)) C (cv_add (w / 4) 1) dX4_write_37 ?_
    refine z_callV (As := [.int (nI j), .int (nI (w / 4)), .int (nI (w / 4 + 1))]) (r := (some (.int (b2i (cWt κ n (nI j) (nI (w / 4)) (nI (w / 4 + 1))))))) (σ1 := (κ, μ, o)) (st := []) (st1 := [.int (b2i (cWt κ n (nI j) (nI (w / 4)) (nI (w / 4 + 1))))]) C K ok_X4_122 (c_X1_waitsIn l D n0 κ μ o n (nI j) (nI (w / 4)) (nI (w / 4 + 1)) hn hn8) enc_Q (by decide) rfl rfl ⟨by decide, by decide⟩ ⟨Nat.zero_le _, Nat.zero_le _⟩ (by simp [Value.category]) dX4_write_38 rfl rfl ?_
    refine z_if_eq (tgt := 52) C dX4_write_41 (by decide) (fun h_41 => ?_) (fun h_41 => ?_)
    · have g_41 := cv_b0 h_41
      refine z_aload_n C rfl dX4_write_52 ?_
      refine z_aload C rfl dX4_write_53 ?_
      refine z_iload C rfl dX4_write_55 ?_
      refine z_callV (As := [.ref (n0 + (cVk j)), .int (nI (w / 4))]) (r := (some (.int (b2i (cNeed κ (cVk j) (w / 4)))))) (σ1 := (κ, μ, o)) (st := []) (st1 := [.int (b2i (cNeed κ (cVk j) (w / 4)))]) C K ok_X4_130 (c_X4_needsExtent l D n0 κ μ o (cVk j) (w / 4) (isVk hj) (by omega) (hX _)) enc_0 (by decide) rfl rfl ⟨by decide, by decide⟩ ⟨Nat.zero_le _, Nat.zero_le _⟩ (by simp [Value.category]) dX4_write_57 rfl rfl ?_
      refine z_if_ne (tgt := 72) C dX4_write_60 (by decide) (fun h_60 => ?_) (fun h_60 => ?_)
      · have g_60 := cv_b1 h_60
        refine z_aload_n C rfl dX4_write_72 ?_
        refine z_aload C rfl dX4_write_73 ?_
        refine z_iload C rfl dX4_write_75 ?_
        refine z_callV (As := [.ref (n0 + (cVk j)), .int (nI (w / 4))]) (r := (some (.int (b2i (cOver κ (cVk j) (w / 4)))))) (σ1 := (κ, μ, o)) (st := []) (st1 := [.int (b2i (cOver κ (cVk j) (w / 4)))]) C K ok_X4_137 (c_X4_isOver l D n0 κ μ o (cVk j) (w / 4) (isVk hj) (by omega)) enc_0 (by decide) rfl rfl ⟨by decide, by decide⟩ ⟨Nat.zero_le _, Nat.zero_le _⟩ (by simp [Value.category]) dX4_write_77 rfl rfl ?_
        refine z_if_eq (tgt := 85) C dX4_write_80 (by decide) (fun h_80 => ?_) (fun h_80 => ?_)
        · have g_80 := cv_b0 h_80
          refine z_aload_n C rfl dX4_write_85 ?_
          refine z_aload C rfl dX4_write_86 ?_
          refine z_iload_n C rfl dX4_write_88 ?_
          refine z_iload_n C rfl dX4_write_89 ?_
          refine z_iload_n C rfl dX4_write_90 ?_
          refine z_callV (As := [.ref (n0 + (cVk j)), .int (nI j), .int (nI w), .int x]) (r := (some (.int ((cWn κ (cVk j) (nI j) w x).2)))) (σ1 := ((cWn κ (cVk j) (nI j) w x).1, μ, o)) (st := []) (st1 := [.int ((cWn κ (cVk j) (nI j) w x).2)]) C K ok_X4_140 (c_X4_writeNeeding l D n0 κ μ o (cVk j) (isVk hj) (nI j) w x (by omega) hJ n hn hn8) enc_0 (by decide) rfl rfl ⟨by decide, by decide⟩ ⟨Nat.zero_le _, Nat.zero_le _⟩ (by simp [Value.category]) dX4_write_91 rfl rfl ?_
          exact z_endI (hret _ _ dX4_write_94) (by rw [cWr_4 (fun q => absurd q.2 (by rw [g_41]; decide)) hQn g_60 g_80]) (st_k (by rw [cWr_4 (fun q => absurd q.2 (by rw [g_41]; decide)) hQn g_60 g_80]))
        · have g_80 := cv_b1 h_80
          refine z_iconst (v := (-1)) C (by decide +kernel) dX4_write_83 ?_
          exact z_endI (hret _ _ dX4_write_84) (ri (cWr_3 (fun q => absurd q.2 (by rw [g_41]; decide)) hQn g_60 g_80)) (cs (cWr_3 (fun q => absurd q.2 (by rw [g_41]; decide)) hQn g_60 g_80))
      · have g_60 := cv_b0 h_60
        refine z_aload_n C rfl dX4_write_63 ?_
        refine z_aload C rfl dX4_write_64 ?_
        refine z_iload_n C rfl dX4_write_66 ?_
        refine z_iload_n C rfl dX4_write_67 ?_
        refine z_callV (As := [.ref (n0 + (cVk j)), .int (nI w), .int x]) (r := (some (.int (cPerR κ (cVk j) w)))) (σ1 := (cPerf κ (cVk j) w x, μ, o)) (st := []) (st1 := [.int (cPerR κ (cVk j) w)]) C K ok_X4_134 (c_X4_perform l D n0 κ μ o (cVk j) w x (isVk hj) (by omega) hJ (fun q => absurd q (by rw [g_60]; decide))) enc_0 (by decide) rfl rfl ⟨by decide, by decide⟩ ⟨Nat.zero_le _, Nat.zero_le _⟩ (by simp [Value.category]) dX4_write_68 rfl rfl ?_
        exact z_endI (hret _ _ dX4_write_71) (ri (cWr_2 (fun q => absurd q.2 (by rw [g_41]; decide)) hQn g_60)) (cs (cWr_2 (fun q => absurd q.2 (by rw [g_41]; decide)) hQn g_60))
    · have g_41 := cv_b1 h_41
      refine z_aload_n C rfl dX4_write_44 ?_
      refine z_iload_n C rfl dX4_write_45 ?_
      refine z_iload_n C rfl dX4_write_46 ?_
      refine z_iload_n C rfl dX4_write_47 ?_
      by_cases h8 : n = 8
      · subst h8
        refine z_callV (As := [.int (nI j), .int (nI w), .int x]) (r := (some (.int ((-1))))) (σ1 := (κ, μ, o)) (st := []) (st1 := [.int ((-1))]) C K ok_X4_126 (c_X4_enqueue_n l D n0 κ μ o (nI j) (nI w) x hn) enc_0 (by decide) rfl rfl ⟨by decide, by decide⟩ ⟨Nat.zero_le _, Nat.zero_le _⟩ (by simp [Value.category]) dX4_write_48 rfl rfl ?_
        exact z_endI (hret _ _ dX4_write_51) (ri ((cWr_1 h_24 hQn g_41).trans (cEn_e hQn))) (cs ((cWr_1 h_24 hQn g_41).trans (cEn_e hQn)))
      · skip
        refine z_callV (As := [.int (nI j), .int (nI w), .int x]) (r := (some (.int 3))) (σ1 := (up (cPut κ n (nI j) (nI w) x) 108 0 (nI (n + 1)), μ, o)) (st := []) (st1 := [.int 3]) C K ok_X4_126 (c_X4_enqueue l D n0 κ μ o n (nI j) (nI w) x hn (by omega)) enc_0 (by decide) rfl rfl ⟨by decide, by decide⟩ ⟨Nat.zero_le _, Nat.zero_le _⟩ (by simp [Value.category]) dX4_write_48 rfl rfl ?_
        exact z_endI (hret _ _ dX4_write_51) (ri ((cWr_1 h_24 hQn g_41).trans (cEn_l hQn h8))) (cs ((cWr_1 h_24 hQn g_41).trans (cEn_l hQn h8)))
set_option maxHeartbeats 4000000 in
set_option maxRecDepth 100000 in
theorem c_X4_discard_1 (l : Launch) (hfl : l.stackTraces = false) (D : DD) (n0 : Nat) (κ μ : KH) (o : Int64) (v a b : Int32) (hb : ¬ okC κ v) : HT l D n0 yX4_discard cX4_discard 6 (some .int) 7 104 [.ref (n0 + 0), .int v, .int a, .int b] (κ, μ, o) cIO := by
  refine HT.of (by decide) (by simp [Value.category]) (by simp) ?_
  intro pp ee ss mm aa bb me cd C K hxt
  show ZZ pp l ee (rmx 7 104) ss mm aa bb me cd D n0 127 6 0 0 _ _ 0 [some (.ref (n0 + 0)), some (.int v), some (.int a), some (.int b), none, none] []
  refine z_aload_n C rfl dX4_discard_0 ?_
  refine z_iload_n C rfl dX4_discard_1 ?_
  refine z_callVT (As := [.int v]) (E := cIO) (st := []) C K ok_X4_71 (c_X4_existing_t l hfl D n0 κ μ o v hb) enc_0 (by decide) rfl rfl ⟨by decide, by decide⟩ ⟨by decide, by decide⟩ (by simp [Value.category]) dX4_discard_2 rfl ?_
  exact fun H locs lsA q9 ce hP hS _ h1 h2 h3 => z_out (σ0 := (κ, μ, o)) (a0 := aa) hxt C.2.2.2.2.2.2.2 hP hS h1 h2 h3
set_option maxHeartbeats 4000000 in
set_option maxRecDepth 100000 in
theorem c_X4_discard_2 (l : Launch) (hfl : l.stackTraces = false) (D : DD) (n0 : Nat) (κ μ : KH) (o : Int64) (j : Nat) (a b : Int32) (hj : j < 16) (h0 : κ (cVk j) 0 ≠ 0) (z : Nat) (hz : κ (cVk j) 2 = nI z) (hz40 : z ≤ 40) (hb : ¬ okCD κ j a b) : HT l D n0 yX4_discard cX4_discard 6 (some .int) 6 82 [.ref (n0 + 0), .int (nI j), .int a, .int b] (κ, μ, o) cIO := by
  refine HT.of (by decide) (by simp [Value.category]) (by simp) ?_
  intro pp ee ss mm aa bb me cd C K hxt
  show ZZ pp l ee (rmx 6 82) ss mm aa bb me cd D n0 127 6 0 0 _ _ 0 [some (.ref (n0 + 0)), some (.int (nI j)), some (.int a), some (.int b), none, none] []
  refine z_aload_n C rfl dX4_discard_0 ?_
  refine z_iload_n C rfl dX4_discard_1 ?_
  refine z_callV (As := [.int (nI j)]) (r := (some (.ref (n0 + (cVk j))))) (σ1 := (κ, μ, o)) (st := []) (st1 := [.ref (n0 + (cVk j))]) C K ok_X4_71 (c_X4_existing l D n0 κ μ o j (by omega) h0) enc_0 (by decide) rfl rfl ⟨by decide, by decide⟩ ⟨Nat.zero_le _, Nat.zero_le _⟩ (by simp [Value.category]) dX4_discard_2 rfl rfl ?_
  refine z_astore (ls' := [some (.ref (n0 + 0)), some (.int (nI j)), some (.int a), some (.int b), some (.ref (n0 + (cVk j))), none]) C (by decide) rfl dX4_discard_5 ?_
  refine z_iload_n C rfl dX4_discard_7 ?_
  refine z_if_lt (tgt := 35) C dX4_discard_8 (by decide) (fun h_8 => ?_) (fun h_8 => ?_)
  · skip
    exact z_throwS (σ0 := (κ, μ, o)) C K hfl hxt (E := cIO) (by decide +kernel) (by decide +kernel) th4_cIO th5_cIO rfl (List.mem_of_getElem? (i := 6) rfl) th1_cIO th2_cIO th3_cIO dX4_discard_35 dX4_discard_38 dX4_discard_39 dX4_discard_41 dX4_discard_44 ⟨by decide, by decide, by decide, by decide⟩
  · skip
    refine z_iload_n C rfl dX4_discard_11 ?_
    refine z_if_lt (tgt := 35) C dX4_discard_12 (by decide) (fun h_12 => ?_) (fun h_12 => ?_)
    · skip
      exact z_throwS (σ0 := (κ, μ, o)) C K hfl hxt (E := cIO) (by decide +kernel) (by decide +kernel) th4_cIO th5_cIO rfl (List.mem_of_getElem? (i := 6) rfl) th1_cIO th2_cIO th3_cIO dX4_discard_35 dX4_discard_38 dX4_discard_39 dX4_discard_41 dX4_discard_44 ⟨by decide, by decide, by decide, by decide⟩
    · skip
      refine z_iload_n C rfl dX4_discard_15 ?_
      refine z_aload C rfl dX4_discard_16 ?_
      refine gf_X4_74 (v := nI z) C (isVk hj) hz dX4_discard_18 ?_
      refine z_icmp_gt (tgt := 35) C dX4_discard_21 (by decide) (fun h_21 => ?_) (fun h_21 => ?_)
      · skip
        exact z_throwS (σ0 := (κ, μ, o)) C K hfl hxt (E := cIO) (by decide +kernel) (by decide +kernel) th4_cIO th5_cIO rfl (List.mem_of_getElem? (i := 6) rfl) th1_cIO th2_cIO th3_cIO dX4_discard_35 dX4_discard_38 dX4_discard_39 dX4_discard_41 dX4_discard_44 ⟨by decide, by decide, by decide, by decide⟩
      · skip
        refine z_iload_n C rfl dX4_discard_24 ?_
        refine z_aload C rfl dX4_discard_25 ?_
        refine gf_X4_74 (v := nI z) C (isVk hj) hz dX4_discard_27 ?_
        refine z_iload_n C rfl dX4_discard_30 ?_
        refine z_isub (v := (nI z) - a) C rfl dX4_discard_31 ?_
        refine z_icmp_le (tgt := 45) C dX4_discard_32 (by decide) (fun h_32 => ?_) (fun h_32 => ?_)
        · exact absurd (okCD_of h_8 h_12 h_21 h_32 hz hz40) hb
        · skip
          exact z_throwS (σ0 := (κ, μ, o)) C K hfl hxt (E := cIO) (by decide +kernel) (by decide +kernel) th4_cIO th5_cIO rfl (List.mem_of_getElem? (i := 6) rfl) th1_cIO th2_cIO th3_cIO dX4_discard_35 dX4_discard_38 dX4_discard_39 dX4_discard_41 dX4_discard_44 ⟨by decide, by decide, by decide, by decide⟩
set_option maxHeartbeats 4000000 in
set_option maxRecDepth 100000 in
theorem c_X4_discard_3 (l : Launch) (hfl : l.stackTraces = false) (D : DD) (n0 : Nat) (κ μ : KH) (o : Int64) (j p q : Nat) (hj : j < 16) (h0 : κ (cVk j) 0 ≠ 0) (z : Nat) (hz : κ (cVk j) 2 = nI z) (hz40 : z ≤ 40) (hpq : p + q ≤ z) (n : Nat) (hn : κ 108 0 = nI n) (hn8 : n ≤ 8) (hw : cWt κ n (nI j) (nI p) (nI (p + q)) = true) : HT l D n0 yX4_discard cX4_discard 6 (some .int) 7 105 [.ref (n0 + 0), .int (nI j), .int (nI p), .int (nI q)] (κ, μ, o) cIS := by
  refine HT.of (by decide) (by simp [Value.category]) (by simp) ?_
  intro pp ee ss mm aa bb me cd C K hxt
  show ZZ pp l ee (rmx 7 105) ss mm aa bb me cd D n0 127 6 0 0 _ _ 0 [some (.ref (n0 + 0)), some (.int (nI j)), some (.int (nI p)), some (.int (nI q)), none, none] []
  refine z_aload_n C rfl dX4_discard_0 ?_
  refine z_iload_n C rfl dX4_discard_1 ?_
  refine z_callV (As := [.int (nI j)]) (r := (some (.ref (n0 + (cVk j))))) (σ1 := (κ, μ, o)) (st := []) (st1 := [.ref (n0 + (cVk j))]) C K ok_X4_71 (c_X4_existing l D n0 κ μ o j (by omega) h0) enc_0 (by decide) rfl rfl ⟨by decide, by decide⟩ ⟨Nat.zero_le _, Nat.zero_le _⟩ (by simp [Value.category]) dX4_discard_2 rfl rfl ?_
  refine z_astore (ls' := [some (.ref (n0 + 0)), some (.int (nI j)), some (.int (nI p)), some (.int (nI q)), some (.ref (n0 + (cVk j))), none]) C (by decide) rfl dX4_discard_5 ?_
  refine z_iload_n C rfl dX4_discard_7 ?_
  refine z_if_lt (tgt := 35) C dX4_discard_8 (by decide) (fun h_8 => ?_) (fun h_8 => ?_)
  · exact absurd h_8 (nI_pos (by omega))
  · skip
    refine z_iload_n C rfl dX4_discard_11 ?_
    refine z_if_lt (tgt := 35) C dX4_discard_12 (by decide) (fun h_12 => ?_) (fun h_12 => ?_)
    · exact absurd h_12 (nI_pos (by omega))
    · skip
      refine z_iload_n C rfl dX4_discard_15 ?_
      refine z_aload C rfl dX4_discard_16 ?_
      refine gf_X4_74 (v := nI z) C (isVk hj) hz dX4_discard_18 ?_
      refine z_icmp_gt (tgt := 35) C dX4_discard_21 (by decide) (fun h_21 => ?_) (fun h_21 => ?_)
      · have g_21 := cv_lt (a := z) (b := p) (by omega) (by omega) h_21
        exact absurd g_21 (by omega)
      · have g_21 := cv_nlt (a := z) (b := p) (by omega) (by omega) h_21
        refine z_iload_n C rfl dX4_discard_24 ?_
        refine z_aload C rfl dX4_discard_25 ?_
        refine gf_X4_74 (v := nI z) C (isVk hj) hz dX4_discard_27 ?_
        refine z_iload_n C rfl dX4_discard_30 ?_
        refine z_isub (v := nI (z - p)) C (cv_sub (by omega)) dX4_discard_31 ?_
        refine z_icmp_le (tgt := 45) C dX4_discard_32 (by decide) (fun h_32 => ?_) (fun h_32 => ?_)
        · have g_32 := cv_le (a := q) (b := z - p) (by omega) (by omega) h_32
          refine z_aload_n C rfl dX4_discard_45 ?_
          refine z_iload_n C rfl dX4_discard_46 ?_
          refine z_iload_n C rfl dX4_discard_47 ?_
          refine z_iload_n C rfl dX4_discard_48 ?_
          refine z_iload_n C rfl dX4_discard_49 ?_
          refine z_iadd (v := nI (p + q)) C (cv_add p q) dX4_discard_50 ?_
          refine z_callVT (As := [.int (nI j), .int (nI p), .int (nI (p + q))]) (E := cIS) (st := []) C K ok_X4_111 (c_X4_requireNoneWaits_t l hfl D n0 κ μ o n hn hn8 (nI j) (nI p) (nI (p + q)) hw) enc_0 (by decide) rfl rfl ⟨by decide, by decide⟩ ⟨by decide, by decide⟩ (by simp [Value.category]) dX4_discard_51 rfl ?_
          exact fun H locs lsA q9 ce hP hS _ h1 h2 h3 => z_out (σ0 := (κ, μ, o)) (a0 := aa) hxt C.2.2.2.2.2.2.2 hP hS h1 h2 h3
        · have g_32 := cv_nle (a := q) (b := z - p) (by omega) (by omega) h_32
          exact absurd g_32 (by omega)
set_option maxHeartbeats 4000000 in
set_option maxRecDepth 100000 in
theorem c_X4_discard (l : Launch) (D : DD) (n0 : Nat) (κ μ : KH) (o : Int64) (j p q : Nat) (hj : j < 16) (h0 : κ (cVk j) 0 ≠ 0) (z : Nat) (hz : κ (cVk j) 2 = nI z) (hz40 : z ≤ 40) (hpq : p + q ≤ z) (n : Nat) (hn : κ 108 0 = nI n) (hn8 : n ≤ 8) (hw : cWt κ n (nI j) (nI p) (nI (p + q)) = false) (hX : ∀ q, isX (κ (cVk j + 1) q)) (hD1 : cD (cUm κ 1 (cVk j) p (p + q)) (nQc (cUm κ 1 (cVk j) p (p + q)))) : HM l D n0 yX4_discard cX4_discard 6 (some .int) 6 135 [.ref (n0 + 0), .int (nI j), .int (nI p), .int (nI q)] (κ, μ, o) (some (.int (κ (cVk j) 5 - cUm κ 1 (cVk j) p (p + q) (cVk j) 5))) (cServe (cUm κ 1 (cVk j) p (p + q)), μ, o) := by
  refine HM.of (by decide) (by simp [Value.category]) (by simp) (Or.inr (Or.inl ⟨_, .int, rfl, rfl, rfl⟩)) ?_
  intro pp ee ss mm aa bb me cd Q C K hret
  show ZZ pp l ee (rmk 6 135) ss mm aa bb me cd D n0 127 6 0 0 Q _ 0 [some (.ref (n0 + 0)), some (.int (nI j)), some (.int (nI p)), some (.int (nI q)), none, none] []
  refine z_aload_n C rfl dX4_discard_0 ?_
  refine z_iload_n C rfl dX4_discard_1 ?_
  refine z_callV (As := [.int (nI j)]) (r := (some (.ref (n0 + (cVk j))))) (σ1 := (κ, μ, o)) (st := []) (st1 := [.ref (n0 + (cVk j))]) C K ok_X4_71 (c_X4_existing l D n0 κ μ o j (by omega) h0) enc_0 (by decide) rfl rfl ⟨by decide, by decide⟩ ⟨Nat.zero_le _, Nat.zero_le _⟩ (by simp [Value.category]) dX4_discard_2 rfl rfl ?_
  refine z_astore (ls' := [some (.ref (n0 + 0)), some (.int (nI j)), some (.int (nI p)), some (.int (nI q)), some (.ref (n0 + (cVk j))), none]) C (by decide) rfl dX4_discard_5 ?_
  refine z_iload_n C rfl dX4_discard_7 ?_
  refine z_if_lt (tgt := 35) C dX4_discard_8 (by decide) (fun h_8 => ?_) (fun h_8 => ?_)
  · exact absurd h_8 (nI_pos (by omega))
  · skip
    refine z_iload_n C rfl dX4_discard_11 ?_
    refine z_if_lt (tgt := 35) C dX4_discard_12 (by decide) (fun h_12 => ?_) (fun h_12 => ?_)
    · exact absurd h_12 (nI_pos (by omega))
    · skip
      refine z_iload_n C rfl dX4_discard_15 ?_
      refine z_aload C rfl dX4_discard_16 ?_
      refine gf_X4_74 (v := nI z) C (isVk hj) hz dX4_discard_18 ?_
      refine z_icmp_gt (tgt := 35) C dX4_discard_21 (by decide) (fun h_21 => ?_) (fun h_21 => ?_)
      · have g_21 := cv_lt (a := z) (b := p) (by omega) (by omega) h_21
        exact absurd g_21 (by omega)
      · have g_21 := cv_nlt (a := z) (b := p) (by omega) (by omega) h_21
        refine z_iload_n C rfl dX4_discard_24 ?_
        refine z_aload C rfl dX4_discard_25 ?_
        refine gf_X4_74 (v := nI z) C (isVk hj) hz dX4_discard_27 ?_
        refine z_iload_n C rfl dX4_discard_30 ?_
        refine z_isub (v := nI (z - p)) C (cv_sub (by omega)) dX4_discard_31 ?_
        refine z_icmp_le (tgt := 45) C dX4_discard_32 (by decide) (fun h_32 => ?_) (fun h_32 => ?_)
        · have g_32 := cv_le (a := q) (b := z - p) (by omega) (by omega) h_32
          refine z_aload_n C rfl dX4_discard_45 ?_
          refine z_iload_n C rfl dX4_discard_46 ?_
          refine z_iload_n C rfl dX4_discard_47 ?_
          refine z_iload_n C rfl dX4_discard_48 ?_
          refine z_iload_n C rfl dX4_discard_49 ?_
          refine z_iadd (v := nI (p + q)) C (cv_add p q) dX4_discard_50 ?_
          refine z_callV (As := [.int (nI j), .int (nI p), .int (nI (p + q))]) (r := none) (σ1 := (κ, μ, o)) (st := []) (st1 := []) C K ok_X4_111 (c_X4_requireNoneWaits l D n0 κ μ o n hn hn8 (nI j) (nI p) (nI (p + q)) hw) enc_0 (by decide) rfl rfl ⟨by decide, by decide⟩ ⟨Nat.zero_le _, Nat.zero_le _⟩ (by simp [Value.category]) dX4_discard_51 rfl rfl ?_
          refine z_aload_n C rfl dX4_discard_54 ?_
          refine gf_X4_10 C dX4_discard_55 ?_
          refine z_aload C rfl dX4_discard_58 ?_
          refine z_iload_n C rfl dX4_discard_60 ?_
          refine z_iload_n C rfl dX4_discard_61 ?_
          refine z_iload_n C rfl dX4_discard_62 ?_
          refine z_iadd (v := nI (p + q)) C (cv_add p q) dX4_discard_63 ?_
          refine z_callV (As := [.ref (n0 + (cVk j)), .int (nI p), .int (nI (p + q))]) (r := (some (.int (κ (cVk j) 5 - cUm κ 1 (cVk j) p (p + q) (cVk j) 5)))) (σ1 := (cUm κ 1 (cVk j) p (p + q), μ, o)) (st := []) (st1 := [.int (κ (cVk j) 5 - cUm κ 1 (cVk j) p (p + q) (cVk j) 5)]) C K ok_X4_100 (c_X2_unmap l D n0 κ μ o 1 (cVk j) p (p + q) (Or.inl rfl) (isVk hj) (by omega) (by omega) hX) (enc_S (Or.inl rfl)) (isS_lt (Or.inl rfl)) rfl rfl ⟨by decide, by decide⟩ ⟨Nat.zero_le _, Nat.zero_le _⟩ (by simp [Value.category]) dX4_discard_64 rfl rfl ?_
          refine z_istore (ls' := [some (.ref (n0 + 0)), some (.int (nI j)), some (.int (nI p)), some (.int (nI q)), some (.ref (n0 + (cVk j))), some (.int (κ (cVk j) 5 - cUm κ 1 (cVk j) p (p + q) (cVk j) 5))]) C (by decide) rfl dX4_discard_67 ?_
          refine z_aload_n C rfl dX4_discard_69 ?_
          refine z_callV (As := []) (r := none) (σ1 := (cServe (cUm κ 1 (cVk j) p (p + q)), μ, o)) (st := []) (st1 := []) C K ok_X4_108 (c_X4_serveQueue l D n0 (cUm κ 1 (cVk j) p (p + q)) μ o hD1) enc_0 (by decide) rfl rfl ⟨by decide, by decide⟩ ⟨Nat.zero_le _, Nat.zero_le _⟩ (by simp [Value.category]) dX4_discard_70 rfl rfl ?_
          refine z_iload C rfl dX4_discard_73 ?_
          exact z_endI (hret _ _ dX4_discard_75) rfl rfl
        · have g_32 := cv_nle (a := q) (b := z - p) (by omega) (by omega) h_32
          exact absurd g_32 (by omega)
set_option maxHeartbeats 4000000 in
set_option maxRecDepth 100000 in
theorem c_X4_grow_1 (l : Launch) (hfl : l.stackTraces = false) (D : DD) (n0 : Nat) (κ μ : KH) (o : Int64) (c : Int32) (hc : c < 0) : HT l D n0 yX4_grow cX4_grow 2 (some .int) 7 103 [.ref (n0 + 0), .int c] (κ, μ, o) cIA := by
  refine HT.of (by decide) (by simp [Value.category]) (by simp) ?_
  intro pp ee ss mm aa bb me cd C K hxt
  show ZZ pp l ee (rmx 7 103) ss mm aa bb me cd D n0 127 2 0 0 _ _ 0 [some (.ref (n0 + 0)), some (.int c)] []
  refine z_aload_n C rfl dX4_grow_0 ?_
  refine z_iload_n C rfl dX4_grow_1 ?_
  refine z_callVT (As := [.int c]) (E := cIA) (st := []) C K ok_X4_153 (c_X4_requireNotNegative_t l hfl D n0 κ μ o c hc) enc_0 (by decide) rfl rfl ⟨by decide, by decide⟩ ⟨by decide, by decide⟩ (by simp [Value.category]) dX4_grow_2 rfl ?_
  exact fun H locs lsA q9 ce hP hS _ h1 h2 h3 => z_out (σ0 := (κ, μ, o)) (a0 := aa) hxt C.2.2.2.2.2.2.2 hP hS h1 h2 h3
set_option maxHeartbeats 4000000 in
set_option maxRecDepth 100000 in
theorem c_X4_grow_n (l : Launch) (D : DD) (n0 : Nat) (κ μ : KH) (o : Int64) (c : Nat) (hc : c < 2 ^ 31) (n : Nat) (hE : κ 106 0 = nI n) (hn : n ≤ 96) (hb : 96 < n + c) : HM l D n0 yX4_grow cX4_grow 2 (some .int) 1 21 [.ref (n0 + 0), .int (nI c)] (κ, μ, o) (some (.int ((-1)))) (κ, μ, o) := by
  refine HM.of (by decide) (by simp [Value.category]) (by simp) (Or.inr (Or.inl ⟨_, .int, rfl, rfl, rfl⟩)) ?_
  intro pp ee ss mm aa bb me cd Q C K hret
  show ZZ pp l ee (rmk 1 21) ss mm aa bb me cd D n0 127 2 0 0 Q _ 0 [some (.ref (n0 + 0)), some (.int (nI c))] []
  refine z_aload_n C rfl dX4_grow_0 ?_
  refine z_iload_n C rfl dX4_grow_1 ?_
  refine z_callV (As := [.int (nI c)]) (r := none) (σ1 := (κ, μ, o)) (st := []) (st1 := []) C K ok_X4_153 (c_X4_requireNotNegative l D n0 κ μ o c (by omega)) enc_0 (by decide) rfl rfl ⟨by decide, by decide⟩ ⟨Nat.zero_le _, Nat.zero_le _⟩ (by simp [Value.category]) dX4_grow_2 rfl rfl ?_
  refine z_iload_n C rfl dX4_grow_5 ?_
  refine z_bipush (v := 96) C (by decide +kernel) dX4_grow_6 ?_
  refine z_aload_n C rfl dX4_grow_8 ?_
  refine gf_X4_27 C dX4_grow_9 ?_
  refine gf_X4_156 (v := nI n) C hE dX4_grow_12 ?_
  refine z_isub (v := nI (96 - n)) C (cv_sub (a := 96) (by omega)) dX4_grow_15 ?_
  refine z_icmp_le (tgt := 21) C dX4_grow_16 (by decide) (fun h_16 => ?_) (fun h_16 => ?_)
  · have g_16 := cv_le (a := c) (b := 96 - n) (by omega) (by omega) h_16
    exact absurd g_16 (by omega)
  · have g_16 := cv_nle (a := c) (b := 96 - n) (by omega) (by omega) h_16
    refine z_iconst (v := (-1)) C (by decide +kernel) dX4_grow_19 ?_
    exact z_endI (hret _ _ dX4_grow_20) rfl rfl
set_option maxHeartbeats 4000000 in
set_option maxRecDepth 100000 in
theorem c_X4_grow (l : Launch) (D : DD) (n0 : Nat) (κ μ : KH) (o : Int64) (c : Nat) (n : Nat) (hE : κ 106 0 = nI n) (hn : n ≤ 96) (hb : n + c ≤ 96) (hD1 : cD (up κ 106 0 (nI (n + c))) (nQc (up κ 106 0 (nI (n + c))))) : HM l D n0 yX4_grow cX4_grow 2 (some .int) 6 135 [.ref (n0 + 0), .int (nI c)] (κ, μ, o) (some (.int (cServe (up κ 106 0 (nI (n + c))) 106 0))) (cServe (up κ 106 0 (nI (n + c))), μ, o) := by
  refine HM.of (by decide) (by simp [Value.category]) (by simp) (Or.inr (Or.inl ⟨_, .int, rfl, rfl, rfl⟩)) ?_
  intro pp ee ss mm aa bb me cd Q C K hret
  show ZZ pp l ee (rmk 6 135) ss mm aa bb me cd D n0 127 2 0 0 Q _ 0 [some (.ref (n0 + 0)), some (.int (nI c))] []
  refine z_aload_n C rfl dX4_grow_0 ?_
  refine z_iload_n C rfl dX4_grow_1 ?_
  refine z_callV (As := [.int (nI c)]) (r := none) (σ1 := (κ, μ, o)) (st := []) (st1 := []) C K ok_X4_153 (c_X4_requireNotNegative l D n0 κ μ o c (by omega)) enc_0 (by decide) rfl rfl ⟨by decide, by decide⟩ ⟨Nat.zero_le _, Nat.zero_le _⟩ (by simp [Value.category]) dX4_grow_2 rfl rfl ?_
  refine z_iload_n C rfl dX4_grow_5 ?_
  refine z_bipush (v := 96) C (by decide +kernel) dX4_grow_6 ?_
  refine z_aload_n C rfl dX4_grow_8 ?_
  refine gf_X4_27 C dX4_grow_9 ?_
  refine gf_X4_156 (v := nI n) C hE dX4_grow_12 ?_
  refine z_isub (v := nI (96 - n)) C (cv_sub (a := 96) (by omega)) dX4_grow_15 ?_
  refine z_icmp_le (tgt := 21) C dX4_grow_16 (by decide) (fun h_16 => ?_) (fun h_16 => ?_)
  · have g_16 := cv_le (a := c) (b := 96 - n) (by omega) (by omega) h_16
    refine z_aload_n C rfl dX4_grow_21 ?_
    refine gf_X4_27 C dX4_grow_22 ?_
    refine z_dup C rfl dX4_grow_25 ?_
    refine gf_X4_156 (v := nI n) C hE dX4_grow_26 ?_
    refine z_iload_n C rfl dX4_grow_29 ?_
    refine z_iadd (v := nI (n + c)) C (cv_add n c) dX4_grow_30 ?_
    refine pf_X4_156 (x := nI (n + c)) C dX4_grow_31 ?_
    refine z_aload_n C rfl dX4_grow_34 ?_
    refine z_callV (As := []) (r := none) (σ1 := (cServe (up κ 106 0 (nI (n + c))), μ, o)) (st := []) (st1 := []) C K ok_X4_108 (c_X4_serveQueue l D n0 (up κ 106 0 (nI (n + c))) μ o hD1) enc_0 (by decide) rfl rfl ⟨by decide, by decide⟩ ⟨Nat.zero_le _, Nat.zero_le _⟩ (by simp [Value.category]) dX4_grow_35 rfl rfl ?_
    refine z_aload_n C rfl dX4_grow_38 ?_
    refine gf_X4_27 C dX4_grow_39 ?_
    refine gf_X4_156 (v := cServe (up κ 106 0 (nI (n + c))) 106 0) C rfl dX4_grow_42 ?_
    exact z_endI (hret _ _ dX4_grow_45) rfl rfl
  · have g_16 := cv_nle (a := c) (b := 96 - n) (by omega) (by omega) h_16
    exact absurd g_16 (by omega)
set_option maxHeartbeats 4000000 in
set_option maxRecDepth 100000 in
theorem c_X4_shrink_1 (l : Launch) (hfl : l.stackTraces = false) (D : DD) (n0 : Nat) (κ μ : KH) (o : Int64) (c : Int32) (hc : c < 0) : HT l D n0 yX4_shrink cX4_shrink 2 (some .int) 7 103 [.ref (n0 + 0), .int c] (κ, μ, o) cIA := by
  refine HT.of (by decide) (by simp [Value.category]) (by simp) ?_
  intro pp ee ss mm aa bb me cd C K hxt
  show ZZ pp l ee (rmx 7 103) ss mm aa bb me cd D n0 127 2 0 0 _ _ 0 [some (.ref (n0 + 0)), some (.int c)] []
  refine z_aload_n C rfl dX4_shrink_0 ?_
  refine z_iload_n C rfl dX4_shrink_1 ?_
  refine z_callVT (As := [.int c]) (E := cIA) (st := []) C K ok_X4_153 (c_X4_requireNotNegative_t l hfl D n0 κ μ o c hc) enc_0 (by decide) rfl rfl ⟨by decide, by decide⟩ ⟨by decide, by decide⟩ (by simp [Value.category]) dX4_shrink_2 rfl ?_
  exact fun H locs lsA q9 ce hP hS _ h1 h2 h3 => z_out (σ0 := (κ, μ, o)) (a0 := aa) hxt C.2.2.2.2.2.2.2 hP hS h1 h2 h3
set_option maxHeartbeats 4000000 in
set_option maxRecDepth 100000 in
theorem c_X4_shrink_n (l : Launch) (D : DD) (n0 : Nat) (κ μ : KH) (o : Int64) (c : Nat) (hc : c < 2 ^ 31) (n : Nat) (hE : κ 106 0 = nI n) (hn : n ≤ 96) (hb : n ≤ c) : HM l D n0 yX4_shrink cX4_shrink 2 (some .int) 1 21 [.ref (n0 + 0), .int (nI c)] (κ, μ, o) (some (.int ((-1)))) (κ, μ, o) := by
  refine HM.of (by decide) (by simp [Value.category]) (by simp) (Or.inr (Or.inl ⟨_, .int, rfl, rfl, rfl⟩)) ?_
  intro pp ee ss mm aa bb me cd Q C K hret
  show ZZ pp l ee (rmk 1 21) ss mm aa bb me cd D n0 127 2 0 0 Q _ 0 [some (.ref (n0 + 0)), some (.int (nI c))] []
  refine z_aload_n C rfl dX4_shrink_0 ?_
  refine z_iload_n C rfl dX4_shrink_1 ?_
  refine z_callV (As := [.int (nI c)]) (r := none) (σ1 := (κ, μ, o)) (st := []) (st1 := []) C K ok_X4_153 (c_X4_requireNotNegative l D n0 κ μ o c (by omega)) enc_0 (by decide) rfl rfl ⟨by decide, by decide⟩ ⟨Nat.zero_le _, Nat.zero_le _⟩ (by simp [Value.category]) dX4_shrink_2 rfl rfl ?_
  refine z_iload_n C rfl dX4_shrink_5 ?_
  refine z_aload_n C rfl dX4_shrink_6 ?_
  refine gf_X4_27 C dX4_shrink_7 ?_
  refine gf_X4_156 (v := nI n) C hE dX4_shrink_10 ?_
  refine z_icmp_ge (tgt := 42) C dX4_shrink_13 (by decide) (fun h_13 => ?_) (fun h_13 => ?_)
  · have g_13 := cv_le (a := n) (b := c) (by omega) (by omega) h_13
    refine z_iconst (v := (-1)) C (by decide +kernel) dX4_shrink_42 ?_
    exact z_endI (hret _ _ dX4_shrink_43) rfl rfl
  · have g_13 := cv_nle (a := n) (b := c) (by omega) (by omega) h_13
    exact absurd g_13 (by omega)
set_option maxHeartbeats 4000000 in
set_option maxRecDepth 100000 in
theorem c_X4_shrink_m (l : Launch) (D : DD) (n0 : Nat) (κ μ : KH) (o : Int64) (c : Nat) (n : Nat) (hE : κ 106 0 = nI n) (hn : n ≤ 96) (hb : c < n) (i0 : Nat) (hi0 : i0 < c) (hfr : ∀ i, i < i0 → cFree κ (n - c + i) = true) (hnf : cFree κ (n - c + i0) = false) : HM l D n0 yX4_shrink cX4_shrink 2 (some .int) 3 65 [.ref (n0 + 0), .int (nI c)] (κ, μ, o) (some (.int ((-1)))) (κ, μ, o) := by
  refine HM.of (by decide) (by simp [Value.category]) (by simp) (Or.inr (Or.inl ⟨_, .int, rfl, rfl, rfl⟩)) ?_
  intro pp ee ss mm aa bb me cd Q C K hret
  show ZZ pp l ee (rmk 3 65) ss mm aa bb me cd D n0 127 2 0 0 Q _ 0 [some (.ref (n0 + 0)), some (.int (nI c))] []
  refine z_aload_n C rfl dX4_shrink_0 ?_
  refine z_iload_n C rfl dX4_shrink_1 ?_
  refine z_callV (As := [.int (nI c)]) (r := none) (σ1 := (κ, μ, o)) (st := []) (st1 := []) C K ok_X4_153 (c_X4_requireNotNegative l D n0 κ μ o c (by omega)) enc_0 (by decide) rfl rfl ⟨by decide, by decide⟩ ⟨Nat.zero_le _, Nat.zero_le _⟩ (by simp [Value.category]) dX4_shrink_2 rfl rfl ?_
  refine z_iload_n C rfl dX4_shrink_5 ?_
  refine z_aload_n C rfl dX4_shrink_6 ?_
  refine gf_X4_27 C dX4_shrink_7 ?_
  refine gf_X4_156 (v := nI n) C hE dX4_shrink_10 ?_
  refine z_icmp_ge (tgt := 42) C dX4_shrink_13 (by decide) (fun h_13 => ?_) (fun h_13 => ?_)
  · have g_13 := cv_le (a := n) (b := c) (by omega) (by omega) h_13
    exact absurd g_13 (by omega)
  · have g_13 := cv_nle (a := n) (b := c) (by omega) (by omega) h_13
    refine z_aload_n C rfl dX4_shrink_16 ?_
    refine gf_X4_27 C dX4_shrink_17 ?_
    refine z_aload_n C rfl dX4_shrink_20 ?_
    refine gf_X4_27 C dX4_shrink_21 ?_
    refine gf_X4_156 (v := nI n) C hE dX4_shrink_24 ?_
    refine z_iload_n C rfl dX4_shrink_27 ?_
    refine z_isub (v := nI (n - c)) C (cv_sub (by omega)) dX4_shrink_28 ?_
    refine z_aload_n C rfl dX4_shrink_29 ?_
    refine gf_X4_27 C dX4_shrink_30 ?_
    refine gf_X4_156 (v := nI n) C hE dX4_shrink_33 ?_
    refine z_callV (As := [.int (nI (n - c)), .int (nI n)]) (r := (some (.int 0))) (σ1 := (κ, μ, o)) (st := []) (st1 := [.int 0]) C K ok_X4_157 (c_X0_areFree_m l D n0 κ μ o (n - c) n i0 hn (by omega) hfr hnf) enc_P (by decide) rfl rfl ⟨by decide, by decide⟩ ⟨Nat.zero_le _, Nat.zero_le _⟩ (by simp [Value.category]) dX4_shrink_36 rfl rfl ?_
    refine z_if_ne (tgt := 44) C dX4_shrink_39 (by decide) (fun h_39 => ?_) (fun h_39 => ?_)
    · exact absurd h_39 (by decide +kernel)
    · skip
      refine z_iconst (v := (-1)) C (by decide +kernel) dX4_shrink_42 ?_
      exact z_endI (hret _ _ dX4_shrink_43) rfl rfl
set_option maxHeartbeats 4000000 in
set_option maxRecDepth 100000 in
theorem c_X4_shrink (l : Launch) (D : DD) (n0 : Nat) (κ μ : KH) (o : Int64) (c : Nat) (n : Nat) (hE : κ 106 0 = nI n) (hn : n ≤ 96) (hb : c < n) (hfr : ∀ i, i < c → cFree κ (n - c + i) = true) (hcu : κ 106 1 = nI (tn (κ 106 1))) (hcb : tn (κ 106 1) < 97) : HM l D n0 yX4_shrink cX4_shrink 2 (some .int) 3 65 [.ref (n0 + 0), .int (nI c)] (κ, μ, o) (some (.int (nI (n - c)))) (up (up κ 106 0 (nI (n - c))) 106 1 (if tn (κ 106 1) < n - c then κ 106 1 else 0), μ, o) := by
  refine HM.of (by decide) (by simp [Value.category]) (by simp) (Or.inr (Or.inl ⟨_, .int, rfl, rfl, rfl⟩)) ?_
  intro pp ee ss mm aa bb me cd Q C K hret
  show ZZ pp l ee (rmk 3 65) ss mm aa bb me cd D n0 127 2 0 0 Q _ 0 [some (.ref (n0 + 0)), some (.int (nI c))] []
  refine z_aload_n C rfl dX4_shrink_0 ?_
  refine z_iload_n C rfl dX4_shrink_1 ?_
  refine z_callV (As := [.int (nI c)]) (r := none) (σ1 := (κ, μ, o)) (st := []) (st1 := []) C K ok_X4_153 (c_X4_requireNotNegative l D n0 κ μ o c (by omega)) enc_0 (by decide) rfl rfl ⟨by decide, by decide⟩ ⟨Nat.zero_le _, Nat.zero_le _⟩ (by simp [Value.category]) dX4_shrink_2 rfl rfl ?_
  refine z_iload_n C rfl dX4_shrink_5 ?_
  refine z_aload_n C rfl dX4_shrink_6 ?_
  refine gf_X4_27 C dX4_shrink_7 ?_
  refine gf_X4_156 (v := nI n) C hE dX4_shrink_10 ?_
  refine z_icmp_ge (tgt := 42) C dX4_shrink_13 (by decide) (fun h_13 => ?_) (fun h_13 => ?_)
  · have g_13 := cv_le (a := n) (b := c) (by omega) (by omega) h_13
    exact absurd g_13 (by omega)
  · have g_13 := cv_nle (a := n) (b := c) (by omega) (by omega) h_13
    refine z_aload_n C rfl dX4_shrink_16 ?_
    refine gf_X4_27 C dX4_shrink_17 ?_
    refine z_aload_n C rfl dX4_shrink_20 ?_
    refine gf_X4_27 C dX4_shrink_21 ?_
    refine gf_X4_156 (v := nI n) C hE dX4_shrink_24 ?_
    refine z_iload_n C rfl dX4_shrink_27 ?_
    refine z_isub (v := nI (n - c)) C (cv_sub (by omega)) dX4_shrink_28 ?_
    refine z_aload_n C rfl dX4_shrink_29 ?_
    refine gf_X4_27 C dX4_shrink_30 ?_
    refine gf_X4_156 (v := nI n) C hE dX4_shrink_33 ?_
    refine z_callV (As := [.int (nI (n - c)), .int (nI n)]) (r := (some (.int 1))) (σ1 := (κ, μ, o)) (st := []) (st1 := [.int 1]) C K ok_X4_157 (c_X0_areFree l D n0 κ μ o (n - c) n hn (by omega) (fun i hi => hfr i (by omega))) enc_P (by decide) rfl rfl ⟨by decide, by decide⟩ ⟨Nat.zero_le _, Nat.zero_le _⟩ (by simp [Value.category]) dX4_shrink_36 rfl rfl ?_
    refine z_if_ne (tgt := 44) C dX4_shrink_39 (by decide) (fun h_39 => ?_) (fun h_39 => ?_)
    · skip
      refine z_aload_n C rfl dX4_shrink_44 ?_
      refine gf_X4_27 C dX4_shrink_45 ?_
      refine z_dup C rfl dX4_shrink_48 ?_
      refine gf_X4_156 (v := nI n) C hE dX4_shrink_49 ?_
      refine z_iload_n C rfl dX4_shrink_52 ?_
      refine z_isub (v := nI (n - c)) C (cv_sub (by omega)) dX4_shrink_53 ?_
      refine pf_X4_156 (x := nI (n - c)) C dX4_shrink_54 ?_
      refine z_aload_n C rfl dX4_shrink_57 ?_
      refine gf_X4_27 C dX4_shrink_58 ?_
      refine gf_X4_161 (v := nI (tn (κ 106 1))) C hcu dX4_shrink_61 ?_
      refine z_aload_n C rfl dX4_shrink_64 ?_
      refine gf_X4_27 C dX4_shrink_65 ?_
      refine gf_X4_156 (v := nI (n - c)) C rfl dX4_shrink_68 ?_
      refine z_icmp_lt (tgt := 82) C dX4_shrink_71 (by decide) (fun h_71 => ?_) (fun h_71 => ?_)
      · have g_71 := cv_lt (a := tn (κ 106 1)) (b := n - c) (by omega) (by omega) h_71
        refine z_aload_n C rfl dX4_shrink_82 ?_
        refine gf_X4_27 C dX4_shrink_83 ?_
        refine gf_X4_156 (v := nI (n - c)) C rfl dX4_shrink_86 ?_
        exact z_endI (hret _ _ dX4_shrink_89) rfl (st_k (by rw [if_pos g_71]; exact (up_id _ 106 1).symm))
      · have g_71 := cv_nlt (a := tn (κ 106 1)) (b := n - c) (by omega) (by omega) h_71
        refine z_aload_n C rfl dX4_shrink_74 ?_
        refine gf_X4_27 C dX4_shrink_75 ?_
        refine z_iconst (v := 0) C (by decide +kernel) dX4_shrink_78 ?_
        refine pf_X4_161 (x := 0) C dX4_shrink_79 ?_
        refine z_aload_n C rfl dX4_shrink_82 ?_
        refine gf_X4_27 C dX4_shrink_83 ?_
        refine gf_X4_156 (v := nI (n - c)) C rfl dX4_shrink_86 ?_
        exact z_endI (hret _ _ dX4_shrink_89) rfl (st_k (by rw [if_neg (by omega)]))
    · exact absurd h_39 (by decide +kernel)
set_option maxHeartbeats 4000000 in
set_option maxRecDepth 100000 in
theorem c_X4_back_1 (l : Launch) (hfl : l.stackTraces = false) (D : DD) (n0 : Nat) (κ μ : KH) (o : Int64) (w x : Int32) (hb : ¬ ∃ c : Nat, w = nI c ∧ c < 160) : HT l D n0 yX4_back cX4_back 4 (some .int) 6 82 [.ref (n0 + 0), .int w, .int x] (κ, μ, o) cIO := by
  refine HT.of (by decide) (by simp [Value.category]) (by simp) ?_
  intro pp ee ss mm aa bb me cd C K hxt
  show ZZ pp l ee (rmx 6 82) ss mm aa bb me cd D n0 127 4 0 0 _ _ 0 [some (.ref (n0 + 0)), some (.int w), some (.int x), none] []
  refine z_iload_n C rfl dX4_back_0 ?_
  refine z_if_lt (tgt := 13) C dX4_back_1 (by decide) (fun h_1 => ?_) (fun h_1 => ?_)
  · skip
    exact z_throwS (σ0 := (κ, μ, o)) C K hfl hxt (E := cIO) (by decide +kernel) (by decide +kernel) th4_cIO th5_cIO rfl (List.mem_of_getElem? (i := 8) rfl) th1_cIO th2_cIO th3_cIO dX4_back_13 dX4_back_16 dX4_back_17 dX4_back_19 dX4_back_22 ⟨by decide, by decide, by decide, by decide⟩
  · skip
    refine z_iload_n C rfl dX4_back_4 ?_
    refine z_aload_n C rfl dX4_back_5 ?_
    refine gf_X4_38 C dX4_back_6 ?_
    refine an_112 C dX4_back_9 ?_
    refine z_icmp_lt (tgt := 23) C dX4_back_10 (by decide) (fun h_10 => ?_) (fun h_10 => ?_)
    · exact (b_or h_1 h_10 hb).elim
    · skip
      exact z_throwS (σ0 := (κ, μ, o)) C K hfl hxt (E := cIO) (by decide +kernel) (by decide +kernel) th4_cIO th5_cIO rfl (List.mem_of_getElem? (i := 8) rfl) th1_cIO th2_cIO th3_cIO dX4_back_13 dX4_back_16 dX4_back_17 dX4_back_19 dX4_back_22 ⟨by decide, by decide, by decide, by decide⟩
set_option maxHeartbeats 4000000 in
set_option maxRecDepth 100000 in
theorem c_X4_back_2 (l : Launch) (hfl : l.stackTraces = false) (D : DD) (n0 : Nat) (κ μ : KH) (o : Int64) (w : Nat) (x : Int32) (hw : w < 160) (hb : (cHB κ 1 || cHB κ 36 || cHB κ 71) = true) : HT l D n0 yX4_back cX4_back 4 (some .int) 6 82 [.ref (n0 + 0), .int (nI w), .int x] (κ, μ, o) cIS := by
  refine HT.of (by decide) (by simp [Value.category]) (by simp) ?_
  intro pp ee ss mm aa bb me cd C K hxt
  show ZZ pp l ee (rmx 6 82) ss mm aa bb me cd D n0 127 4 0 0 _ _ 0 [some (.ref (n0 + 0)), some (.int (nI w)), some (.int x), none] []
  refine z_iload_n C rfl dX4_back_0 ?_
  refine z_if_lt (tgt := 13) C dX4_back_1 (by decide) (fun h_1 => ?_) (fun h_1 => ?_)
  · exact absurd h_1 (nI_pos (by omega))
  · skip
    refine z_iload_n C rfl dX4_back_4 ?_
    refine z_aload_n C rfl dX4_back_5 ?_
    refine gf_X4_38 C dX4_back_6 ?_
    refine an_112 C dX4_back_9 ?_
    refine z_icmp_lt (tgt := 23) C dX4_back_10 (by decide) (fun h_10 => ?_) (fun h_10 => ?_)
    · have g_10 := cv_lt (a := w) (b := 160) (by omega) (by omega) h_10
      refine z_aload_n C rfl dX4_back_23 ?_
      refine gf_X4_10 C dX4_back_24 ?_
      refine z_callV (As := []) (r := (some (.int (b2i (cHB κ 1))))) (σ1 := (κ, μ, o)) (st := []) (st1 := [.int (b2i (cHB κ 1))]) C K ok_X4_166 (c_X2_hasBacked l D n0 κ μ o 1 (Or.inl rfl)) (enc_S (Or.inl rfl)) (isS_lt (Or.inl rfl)) rfl rfl ⟨by decide, by decide⟩ ⟨Nat.zero_le _, Nat.zero_le _⟩ (by simp [Value.category]) dX4_back_27 rfl rfl ?_
      refine z_if_ne (tgt := 53) C dX4_back_30 (by decide) (fun h_30 => ?_) (fun h_30 => ?_)
      · have g_30 := cv_b1 h_30
        exact z_throwS (σ0 := (κ, μ, o)) C K hfl hxt (E := cIS) (by decide +kernel) (by decide +kernel) th4_cIS th5_cIS rfl (List.mem_of_getElem? (i := 9) rfl) th1_cIS th2_cIS th3_cIS dX4_back_53 dX4_back_56 dX4_back_57 dX4_back_59 dX4_back_62 ⟨by decide, by decide, by decide, by decide⟩
      · have g_30 := cv_b0 h_30
        refine z_aload_n C rfl dX4_back_33 ?_
        refine gf_X4_16 C dX4_back_34 ?_
        refine z_callV (As := []) (r := (some (.int (b2i (cHB κ 36))))) (σ1 := (κ, μ, o)) (st := []) (st1 := [.int (b2i (cHB κ 36))]) C K ok_X4_166 (c_X2_hasBacked l D n0 κ μ o 36 (Or.inr (Or.inl rfl))) (enc_S (Or.inr (Or.inl rfl))) (isS_lt (Or.inr (Or.inl rfl))) rfl rfl ⟨by decide, by decide⟩ ⟨Nat.zero_le _, Nat.zero_le _⟩ (by simp [Value.category]) dX4_back_37 rfl rfl ?_
        refine z_if_ne (tgt := 53) C dX4_back_40 (by decide) (fun h_40 => ?_) (fun h_40 => ?_)
        · have g_40 := cv_b1 h_40
          exact z_throwS (σ0 := (κ, μ, o)) C K hfl hxt (E := cIS) (by decide +kernel) (by decide +kernel) th4_cIS th5_cIS rfl (List.mem_of_getElem? (i := 9) rfl) th1_cIS th2_cIS th3_cIS dX4_back_53 dX4_back_56 dX4_back_57 dX4_back_59 dX4_back_62 ⟨by decide, by decide, by decide, by decide⟩
        · have g_40 := cv_b0 h_40
          refine z_aload_n C rfl dX4_back_43 ?_
          refine gf_X4_19 C dX4_back_44 ?_
          refine z_callV (As := []) (r := (some (.int (b2i (cHB κ 71))))) (σ1 := (κ, μ, o)) (st := []) (st1 := [.int (b2i (cHB κ 71))]) C K ok_X4_166 (c_X2_hasBacked l D n0 κ μ o 71 (Or.inr (Or.inr rfl))) (enc_S (Or.inr (Or.inr rfl))) (isS_lt (Or.inr (Or.inr rfl))) rfl rfl ⟨by decide, by decide⟩ ⟨Nat.zero_le _, Nat.zero_le _⟩ (by simp [Value.category]) dX4_back_47 rfl rfl ?_
          refine z_if_eq (tgt := 63) C dX4_back_50 (by decide) (fun h_50 => ?_) (fun h_50 => ?_)
          · have g_50 := cv_b0 h_50
            exact absurd hb (by rw [g_30, g_40, g_50]; decide)
          · have g_50 := cv_b1 h_50
            exact z_throwS (σ0 := (κ, μ, o)) C K hfl hxt (E := cIS) (by decide +kernel) (by decide +kernel) th4_cIS th5_cIS rfl (List.mem_of_getElem? (i := 9) rfl) th1_cIS th2_cIS th3_cIS dX4_back_53 dX4_back_56 dX4_back_57 dX4_back_59 dX4_back_62 ⟨by decide, by decide, by decide, by decide⟩
    · have g_10 := cv_nlt (a := w) (b := 160) (by omega) (by omega) h_10
      exact absurd g_10 (by omega)
set_option maxHeartbeats 4000000 in
set_option maxRecDepth 100000 in
theorem c_X4_back (l : Launch) (D : DD) (n0 : Nat) (κ μ : KH) (o : Int64) (w : Nat) (x : Int32) (hw : w < 160) (hb : (cHB κ 1 || cHB κ 36 || cHB κ 71) = false) : HM l D n0 yX4_back cX4_back 4 (some .int) 1 24 [.ref (n0 + 0), .int (nI w), .int x] (κ, μ, o) (some (.int (κ 112 w))) (up κ 112 w x, μ, o) := by
  refine HM.of (by decide) (by simp [Value.category]) (by simp) (Or.inr (Or.inl ⟨_, .int, rfl, rfl, rfl⟩)) ?_
  intro pp ee ss mm aa bb me cd Q C K hret
  show ZZ pp l ee (rmk 1 24) ss mm aa bb me cd D n0 127 4 0 0 Q _ 0 [some (.ref (n0 + 0)), some (.int (nI w)), some (.int x), none] []
  simp only [Bool.or_eq_false_iff] at hb
  refine z_iload_n C rfl dX4_back_0 ?_
  refine z_if_lt (tgt := 13) C dX4_back_1 (by decide) (fun h_1 => ?_) (fun h_1 => ?_)
  · exact absurd h_1 (nI_pos (by omega))
  · skip
    refine z_iload_n C rfl dX4_back_4 ?_
    refine z_aload_n C rfl dX4_back_5 ?_
    refine gf_X4_38 C dX4_back_6 ?_
    refine an_112 C dX4_back_9 ?_
    refine z_icmp_lt (tgt := 23) C dX4_back_10 (by decide) (fun h_10 => ?_) (fun h_10 => ?_)
    · have g_10 := cv_lt (a := w) (b := 160) (by omega) (by omega) h_10
      refine z_aload_n C rfl dX4_back_23 ?_
      refine gf_X4_10 C dX4_back_24 ?_
      refine z_callV (As := []) (r := (some (.int (b2i (cHB κ 1))))) (σ1 := (κ, μ, o)) (st := []) (st1 := [.int (b2i (cHB κ 1))]) C K ok_X4_166 (c_X2_hasBacked l D n0 κ μ o 1 (Or.inl rfl)) (enc_S (Or.inl rfl)) (isS_lt (Or.inl rfl)) rfl rfl ⟨by decide, by decide⟩ ⟨Nat.zero_le _, Nat.zero_le _⟩ (by simp [Value.category]) dX4_back_27 rfl rfl ?_
      refine z_if_ne (tgt := 53) C dX4_back_30 (by decide) (fun h_30 => ?_) (fun h_30 => ?_)
      · have g_30 := cv_b1 h_30
        exact absurd g_30 (by rw [hb.1.1]; decide)
      · have g_30 := cv_b0 h_30
        refine z_aload_n C rfl dX4_back_33 ?_
        refine gf_X4_16 C dX4_back_34 ?_
        refine z_callV (As := []) (r := (some (.int (b2i (cHB κ 36))))) (σ1 := (κ, μ, o)) (st := []) (st1 := [.int (b2i (cHB κ 36))]) C K ok_X4_166 (c_X2_hasBacked l D n0 κ μ o 36 (Or.inr (Or.inl rfl))) (enc_S (Or.inr (Or.inl rfl))) (isS_lt (Or.inr (Or.inl rfl))) rfl rfl ⟨by decide, by decide⟩ ⟨Nat.zero_le _, Nat.zero_le _⟩ (by simp [Value.category]) dX4_back_37 rfl rfl ?_
        refine z_if_ne (tgt := 53) C dX4_back_40 (by decide) (fun h_40 => ?_) (fun h_40 => ?_)
        · have g_40 := cv_b1 h_40
          exact absurd g_40 (by rw [hb.1.2]; decide)
        · have g_40 := cv_b0 h_40
          refine z_aload_n C rfl dX4_back_43 ?_
          refine gf_X4_19 C dX4_back_44 ?_
          refine z_callV (As := []) (r := (some (.int (b2i (cHB κ 71))))) (σ1 := (κ, μ, o)) (st := []) (st1 := [.int (b2i (cHB κ 71))]) C K ok_X4_166 (c_X2_hasBacked l D n0 κ μ o 71 (Or.inr (Or.inr rfl))) (enc_S (Or.inr (Or.inr rfl))) (isS_lt (Or.inr (Or.inr rfl))) rfl rfl ⟨by decide, by decide⟩ ⟨Nat.zero_le _, Nat.zero_le _⟩ (by simp [Value.category]) dX4_back_47 rfl rfl ?_
          refine z_if_eq (tgt := 63) C dX4_back_50 (by decide) (fun h_50 => ?_) (fun h_50 => ?_)
          · have g_50 := cv_b0 h_50
            refine z_aload_n C rfl dX4_back_63 ?_
            refine gf_X4_38 C dX4_back_64 ?_
            refine z_iload_n C rfl dX4_back_67 ?_
            refine al_112 (v := κ 112 w) C (w) rfl (by omega) rfl dX4_back_68 ?_
            refine z_istore_n (ls' := [some (.ref (n0 + 0)), some (.int (nI w)), some (.int x), some (.int (κ 112 w))]) C (by decide) rfl dX4_back_69 ?_
            refine z_aload_n C rfl dX4_back_70 ?_
            refine gf_X4_38 C dX4_back_71 ?_
            refine z_iload_n C rfl dX4_back_74 ?_
            refine z_iload_n C rfl dX4_back_75 ?_
            refine as_112 (x := x) C (w) rfl (by omega) dX4_back_76 ?_
            refine z_iload_n C rfl dX4_back_77 ?_
            exact z_endI (hret _ _ dX4_back_78) rfl rfl
          · have g_50 := cv_b1 h_50
            exact absurd g_50 (by rw [hb.2]; decide)
    · have g_10 := cv_nlt (a := w) (b := 160) (by omega) (by omega) h_10
      exact absurd g_10 (by omega)
set_option maxHeartbeats 4000000 in
set_option maxRecDepth 100000 in
theorem c_X4_quota_1 (l : Launch) (hfl : l.stackTraces = false) (D : DD) (n0 : Nat) (κ μ : KH) (o : Int64) (v t : Int32) (hb : ¬ okC κ v) : HT l D n0 yX4_quota cX4_quota 5 (some .int) 7 104 [.ref (n0 + 0), .int v, .int t] (κ, μ, o) cIO := by
  refine HT.of (by decide) (by simp [Value.category]) (by simp) ?_
  intro pp ee ss mm aa bb me cd C K hxt
  show ZZ pp l ee (rmx 7 104) ss mm aa bb me cd D n0 127 5 0 0 _ _ 0 [some (.ref (n0 + 0)), some (.int v), some (.int t), none, none] []
  refine z_aload_n C rfl dX4_quota_0 ?_
  refine z_iload_n C rfl dX4_quota_1 ?_
  refine z_callVT (As := [.int v]) (E := cIO) (st := []) C K ok_X4_71 (c_X4_existing_t l hfl D n0 κ μ o v hb) enc_0 (by decide) rfl rfl ⟨by decide, by decide⟩ ⟨by decide, by decide⟩ (by simp [Value.category]) dX4_quota_2 rfl ?_
  exact fun H locs lsA q9 ce hP hS _ h1 h2 h3 => z_out (σ0 := (κ, μ, o)) (a0 := aa) hxt C.2.2.2.2.2.2.2 hP hS h1 h2 h3
set_option maxHeartbeats 4000000 in
set_option maxRecDepth 100000 in
theorem c_X4_quota_2 (l : Launch) (hfl : l.stackTraces = false) (D : DD) (n0 : Nat) (κ μ : KH) (o : Int64) (j : Nat) (t : Int32) (hj : j < 16) (h0 : κ (cVk j) 0 ≠ 0) (hb : t < -1 ∨ 40 < t) : HT l D n0 yX4_quota cX4_quota 5 (some .int) 6 82 [.ref (n0 + 0), .int (nI j), .int t] (κ, μ, o) cIA := by
  refine HT.of (by decide) (by simp [Value.category]) (by simp) ?_
  intro pp ee ss mm aa bb me cd C K hxt
  show ZZ pp l ee (rmx 6 82) ss mm aa bb me cd D n0 127 5 0 0 _ _ 0 [some (.ref (n0 + 0)), some (.int (nI j)), some (.int t), none, none] []
  refine z_aload_n C rfl dX4_quota_0 ?_
  refine z_iload_n C rfl dX4_quota_1 ?_
  refine z_callV (As := [.int (nI j)]) (r := (some (.ref (n0 + (cVk j))))) (σ1 := (κ, μ, o)) (st := []) (st1 := [.ref (n0 + (cVk j))]) C K ok_X4_71 (c_X4_existing l D n0 κ μ o j (by omega) h0) enc_0 (by decide) rfl rfl ⟨by decide, by decide⟩ ⟨Nat.zero_le _, Nat.zero_le _⟩ (by simp [Value.category]) dX4_quota_2 rfl rfl ?_
  refine z_astore_n (ls' := [some (.ref (n0 + 0)), some (.int (nI j)), some (.int t), some (.ref (n0 + (cVk j))), none]) C (by decide) rfl dX4_quota_5 ?_
  refine z_iload_n C rfl dX4_quota_6 ?_
  refine z_iconst (v := (-1)) C (by decide +kernel) dX4_quota_7 ?_
  refine z_icmp_lt (tgt := 17) C dX4_quota_8 (by decide) (fun h_8 => ?_) (fun h_8 => ?_)
  · skip
    exact z_throwS (σ0 := (κ, μ, o)) C K hfl hxt (E := cIA) (by decide +kernel) (by decide +kernel) th4_cIA th5_cIA rfl (List.mem_of_getElem? (i := 10) rfl) th1_cIA th2_cIA th3_cIA dX4_quota_17 dX4_quota_20 dX4_quota_21 dX4_quota_23 dX4_quota_26 ⟨by decide, by decide, by decide, by decide⟩
  · skip
    refine z_iload_n C rfl dX4_quota_11 ?_
    refine z_bipush (v := 40) C (by decide +kernel) dX4_quota_12 ?_
    refine z_icmp_le (tgt := 27) C dX4_quota_14 (by decide) (fun h_14 => ?_) (fun h_14 => ?_)
    · exact absurd hb (fun q => q.elim h_8 (Int32.not_lt.mpr h_14))
    · skip
      exact z_throwS (σ0 := (κ, μ, o)) C K hfl hxt (E := cIA) (by decide +kernel) (by decide +kernel) th4_cIA th5_cIA rfl (List.mem_of_getElem? (i := 10) rfl) th1_cIA th2_cIA th3_cIA dX4_quota_17 dX4_quota_20 dX4_quota_21 dX4_quota_23 dX4_quota_26 ⟨by decide, by decide, by decide, by decide⟩
set_option maxHeartbeats 4000000 in
set_option maxRecDepth 100000 in
theorem c_X4_quota (l : Launch) (D : DD) (n0 : Nat) (κ μ : KH) (o : Int64) (j : Nat) (t : Int32) (hj : j < 16) (h0 : κ (cVk j) 0 ≠ 0) (hb1 : ¬ t < -1) (hb2 : t ≤ 40) (hD1 : cD (up κ (cVk j) 3 t) (nQc (up κ (cVk j) 3 t))) : HM l D n0 yX4_quota cX4_quota 5 (some .int) 6 135 [.ref (n0 + 0), .int (nI j), .int t] (κ, μ, o) (some (.int (κ (cVk j) 3))) (cServe (up κ (cVk j) 3 t), μ, o) := by
  refine HM.of (by decide) (by simp [Value.category]) (by simp) (Or.inr (Or.inl ⟨_, .int, rfl, rfl, rfl⟩)) ?_
  intro pp ee ss mm aa bb me cd Q C K hret
  show ZZ pp l ee (rmk 6 135) ss mm aa bb me cd D n0 127 5 0 0 Q _ 0 [some (.ref (n0 + 0)), some (.int (nI j)), some (.int t), none, none] []
  refine z_aload_n C rfl dX4_quota_0 ?_
  refine z_iload_n C rfl dX4_quota_1 ?_
  refine z_callV (As := [.int (nI j)]) (r := (some (.ref (n0 + (cVk j))))) (σ1 := (κ, μ, o)) (st := []) (st1 := [.ref (n0 + (cVk j))]) C K ok_X4_71 (c_X4_existing l D n0 κ μ o j (by omega) h0) enc_0 (by decide) rfl rfl ⟨by decide, by decide⟩ ⟨Nat.zero_le _, Nat.zero_le _⟩ (by simp [Value.category]) dX4_quota_2 rfl rfl ?_
  refine z_astore_n (ls' := [some (.ref (n0 + 0)), some (.int (nI j)), some (.int t), some (.ref (n0 + (cVk j))), none]) C (by decide) rfl dX4_quota_5 ?_
  refine z_iload_n C rfl dX4_quota_6 ?_
  refine z_iconst (v := (-1)) C (by decide +kernel) dX4_quota_7 ?_
  refine z_icmp_lt (tgt := 17) C dX4_quota_8 (by decide) (fun h_8 => ?_) (fun h_8 => ?_)
  · exact absurd h_8 hb1
  · skip
    refine z_iload_n C rfl dX4_quota_11 ?_
    refine z_bipush (v := 40) C (by decide +kernel) dX4_quota_12 ?_
    refine z_icmp_le (tgt := 27) C dX4_quota_14 (by decide) (fun h_14 => ?_) (fun h_14 => ?_)
    · skip
      refine z_aload_n C rfl dX4_quota_27 ?_
      refine gf_X4_80 (v := κ (cVk j) 3) C (isVk hj) rfl dX4_quota_28 ?_
      refine z_istore (ls' := [some (.ref (n0 + 0)), some (.int (nI j)), some (.int t), some (.ref (n0 + (cVk j))), some (.int (κ (cVk j) 3))]) C (by decide) rfl dX4_quota_31 ?_
      refine z_aload_n C rfl dX4_quota_33 ?_
      refine z_iload_n C rfl dX4_quota_34 ?_
      refine pf_X4_80 (x := t) C (isVk hj) dX4_quota_35 ?_
      refine z_aload_n C rfl dX4_quota_38 ?_
      refine z_callV (As := []) (r := none) (σ1 := (cServe (up κ (cVk j) 3 t), μ, o)) (st := []) (st1 := []) C K ok_X4_108 (c_X4_serveQueue l D n0 (up κ (cVk j) 3 t) μ o hD1) enc_0 (by decide) rfl rfl ⟨by decide, by decide⟩ ⟨Nat.zero_le _, Nat.zero_le _⟩ (by simp [Value.category]) dX4_quota_39 rfl rfl ?_
      refine z_iload C rfl dX4_quota_42 ?_
      exact z_endI (hret _ _ dX4_quota_44) rfl rfl
    · exact absurd hb2 h_14
set_option maxHeartbeats 4000000 in
set_option maxRecDepth 100000 in
theorem c_X4_mark_n (l : Launch) (D : DD) (n0 : Nat) (κ μ : KH) (o : Int64) (a b : Int32) (hne : ¬ κ 1 0 = a) : HM l D n0 yX4_mark cX4_mark 3 (some .boolean) 0 0 [.ref (n0 + 0), .int a, .int b] (κ, μ, o) (some (.int 0)) (κ, μ, o) := by
  refine HM.of (by decide) (by simp [Value.category]) (by simp) (Or.inr (Or.inl ⟨_, .boolean, rfl, rfl, (by decide +kernel)⟩)) ?_
  intro pp ee ss mm aa bb me cd Q C K hret
  show ZZ pp l ee (rmk 0 0) ss mm aa bb me cd D n0 127 3 0 0 Q _ 0 [some (.ref (n0 + 0)), some (.int a), some (.int b)] []
  refine z_aload_n C rfl dX4_mark_0 ?_
  refine gf_X4_10 C dX4_mark_1 ?_
  refine gf_X4_177 (v := κ 1 0) C (Or.inl rfl) rfl dX4_mark_4 ?_
  refine z_iload_n C rfl dX4_mark_7 ?_
  refine z_icmp_eq (tgt := 13) C dX4_mark_8 (by decide) (fun h_8 => ?_) (fun h_8 => ?_)
  · exact absurd h_8 hne
  · skip
    refine z_iconst (v := 0) C (by decide +kernel) dX4_mark_11 ?_
    exact z_endI (hret _ _ dX4_mark_12) rfl rfl
set_option maxHeartbeats 4000000 in
set_option maxRecDepth 100000 in
theorem c_X4_mark (l : Launch) (D : DD) (n0 : Nat) (κ μ : KH) (o : Int64) (a b : Int32) (heq : κ 1 0 = a) : HM l D n0 yX4_mark cX4_mark 3 (some .boolean) 0 0 [.ref (n0 + 0), .int a, .int b] (κ, μ, o) (some (.int 1)) (up κ 1 0 b, μ, o) := by
  refine HM.of (by decide) (by simp [Value.category]) (by simp) (Or.inr (Or.inl ⟨_, .boolean, rfl, rfl, (by decide +kernel)⟩)) ?_
  intro pp ee ss mm aa bb me cd Q C K hret
  show ZZ pp l ee (rmk 0 0) ss mm aa bb me cd D n0 127 3 0 0 Q _ 0 [some (.ref (n0 + 0)), some (.int a), some (.int b)] []
  refine z_aload_n C rfl dX4_mark_0 ?_
  refine gf_X4_10 C dX4_mark_1 ?_
  refine gf_X4_177 (v := κ 1 0) C (Or.inl rfl) rfl dX4_mark_4 ?_
  refine z_iload_n C rfl dX4_mark_7 ?_
  refine z_icmp_eq (tgt := 13) C dX4_mark_8 (by decide) (fun h_8 => ?_) (fun h_8 => ?_)
  · skip
    refine z_aload_n C rfl dX4_mark_13 ?_
    refine gf_X4_10 C dX4_mark_14 ?_
    refine z_iload_n C rfl dX4_mark_17 ?_
    refine pf_X4_177 (x := b) C (Or.inl rfl) dX4_mark_18 ?_
    refine z_iconst (v := 1) C (by decide +kernel) dX4_mark_21 ?_
    exact z_endI (hret _ _ dX4_mark_22) rfl rfl
  · exact absurd heq h_8
set_option maxHeartbeats 4000000 in
set_option maxRecDepth 100000 in
theorem c_X4_marked_t (l : Launch) (hfl : l.stackTraces = false) (D : DD) (n0 : Nat) (κ μ : KH) (o : Int64) (s : Int32) (hs : s < 0 ∨ 2 < s) : HT l D n0 yX4_marked cX4_marked 2 (some .int) 7 103 [.ref (n0 + 0), .int s] (κ, μ, o) cIA := by
  refine HT.of (by decide) (by simp [Value.category]) (by simp) ?_
  intro pp ee ss mm aa bb me cd C K hxt
  show ZZ pp l ee (rmx 7 103) ss mm aa bb me cd D n0 127 2 0 0 _ _ 0 [some (.ref (n0 + 0)), some (.int s)] []
  refine z_aload_n C rfl dX4_marked_0 ?_
  refine z_iload_n C rfl dX4_marked_1 ?_
  refine z_callVT (As := [.int s]) (E := cIA) (st := []) C K ok_X4_180 (c_X4_stateOf_t l hfl D n0 κ μ o s hs) enc_0 (by decide) rfl rfl ⟨by decide, by decide⟩ ⟨by decide, by decide⟩ (by simp [Value.category]) dX4_marked_2 rfl ?_
  exact fun H locs lsA q9 ce hP hS _ h1 h2 h3 => z_out (σ0 := (κ, μ, o)) (a0 := aa) hxt C.2.2.2.2.2.2.2 hP hS h1 h2 h3
set_option maxHeartbeats 4000000 in
set_option maxRecDepth 100000 in
theorem c_X4_marked_0 (l : Launch) (D : DD) (n0 : Nat) (κ μ : KH) (o : Int64)  : HM l D n0 yX4_marked cX4_marked 2 (some .int) 1 21 [.ref (n0 + 0), .int 0] (κ, μ, o) (some (.int (κ 1 0))) (κ, μ, o) := by
  refine HM.of (by decide) (by simp [Value.category]) (by simp) (Or.inr (Or.inl ⟨_, .int, rfl, rfl, rfl⟩)) ?_
  intro pp ee ss mm aa bb me cd Q C K hret
  show ZZ pp l ee (rmk 1 21) ss mm aa bb me cd D n0 127 2 0 0 Q _ 0 [some (.ref (n0 + 0)), some (.int 0)] []
  refine z_aload_n C rfl dX4_marked_0 ?_
  refine z_iload_n C rfl dX4_marked_1 ?_
  refine z_callV (As := [.int 0]) (r := (some (.ref (n0 + 1)))) (σ1 := (κ, μ, o)) (st := []) (st1 := [.ref (n0 + 1)]) C K ok_X4_180 (c_X4_stateOf_0 l D n0 κ μ o) enc_0 (by decide) rfl rfl ⟨by decide, by decide⟩ ⟨Nat.zero_le _, Nat.zero_le _⟩ (by simp [Value.category]) dX4_marked_2 rfl rfl ?_
  refine gf_X4_177 (v := κ 1 0) C (Or.inl rfl) rfl dX4_marked_5 ?_
  exact z_endI (hret _ _ dX4_marked_8) rfl rfl
set_option maxHeartbeats 4000000 in
set_option maxRecDepth 100000 in
theorem c_X4_marked_1 (l : Launch) (D : DD) (n0 : Nat) (κ μ : KH) (o : Int64)  : HM l D n0 yX4_marked cX4_marked 2 (some .int) 1 21 [.ref (n0 + 0), .int 1] (κ, μ, o) (some (.int (κ 36 0))) (κ, μ, o) := by
  refine HM.of (by decide) (by simp [Value.category]) (by simp) (Or.inr (Or.inl ⟨_, .int, rfl, rfl, rfl⟩)) ?_
  intro pp ee ss mm aa bb me cd Q C K hret
  show ZZ pp l ee (rmk 1 21) ss mm aa bb me cd D n0 127 2 0 0 Q _ 0 [some (.ref (n0 + 0)), some (.int 1)] []
  refine z_aload_n C rfl dX4_marked_0 ?_
  refine z_iload_n C rfl dX4_marked_1 ?_
  refine z_callV (As := [.int 1]) (r := (some (.ref (n0 + 36)))) (σ1 := (κ, μ, o)) (st := []) (st1 := [.ref (n0 + 36)]) C K ok_X4_180 (c_X4_stateOf_1 l D n0 κ μ o) enc_0 (by decide) rfl rfl ⟨by decide, by decide⟩ ⟨Nat.zero_le _, Nat.zero_le _⟩ (by simp [Value.category]) dX4_marked_2 rfl rfl ?_
  refine gf_X4_177 (v := κ 36 0) C (Or.inr (Or.inl rfl)) rfl dX4_marked_5 ?_
  exact z_endI (hret _ _ dX4_marked_8) rfl rfl
set_option maxHeartbeats 4000000 in
set_option maxRecDepth 100000 in
theorem c_X4_marked_2 (l : Launch) (D : DD) (n0 : Nat) (κ μ : KH) (o : Int64)  : HM l D n0 yX4_marked cX4_marked 2 (some .int) 1 21 [.ref (n0 + 0), .int 2] (κ, μ, o) (some (.int (κ 71 0))) (κ, μ, o) := by
  refine HM.of (by decide) (by simp [Value.category]) (by simp) (Or.inr (Or.inl ⟨_, .int, rfl, rfl, rfl⟩)) ?_
  intro pp ee ss mm aa bb me cd Q C K hret
  show ZZ pp l ee (rmk 1 21) ss mm aa bb me cd D n0 127 2 0 0 Q _ 0 [some (.ref (n0 + 0)), some (.int 2)] []
  refine z_aload_n C rfl dX4_marked_0 ?_
  refine z_iload_n C rfl dX4_marked_1 ?_
  refine z_callV (As := [.int 2]) (r := (some (.ref (n0 + 71)))) (σ1 := (κ, μ, o)) (st := []) (st1 := [.ref (n0 + 71)]) C K ok_X4_180 (c_X4_stateOf_2 l D n0 κ μ o) enc_0 (by decide) rfl rfl ⟨by decide, by decide⟩ ⟨Nat.zero_le _, Nat.zero_le _⟩ (by simp [Value.category]) dX4_marked_2 rfl rfl ?_
  refine gf_X4_177 (v := κ 71 0) C (Or.inr (Or.inr rfl)) rfl dX4_marked_5 ?_
  exact z_endI (hret _ _ dX4_marked_8) rfl rfl
set_option maxHeartbeats 4000000 in
set_option maxRecDepth 100000 in
theorem c_X4_commit (l : Launch) (D : DD) (n0 : Nat) (κ μ : KH) (o : Int64) (h01 : ∀ v, v < 16 → is01 (κ (1 + 2 + 2 * v) 0) ∧ is01 (κ (1 + 2 + 2 * v) 1)) (hD1 : cD (cHd κ) (nQc (cHd κ))) : HM l D n0 yX4_commit cX4_commit 1 (some .int) 6 135 [.ref (n0 + 0)] (κ, μ, o) (some (.int (cServe (cHd κ) 0 12))) (cServe (cHd κ), μ, o) := by
  refine HM.of (by decide) (by simp [Value.category]) (by simp) (Or.inr (Or.inl ⟨_, .int, rfl, rfl, rfl⟩)) ?_
  intro pp ee ss mm aa bb me cd Q C K hret
  show ZZ pp l ee (rmk 6 135) ss mm aa bb me cd D n0 127 1 0 0 Q _ 0 [some (.ref (n0 + 0))] []
  refine z_aload_n C rfl dX4_commit_0 ?_
  refine z_callV (As := []) (r := none) (σ1 := (cHd κ, μ, o)) (st := []) (st1 := []) C K ok_X4_184 (c_X4_writeHead l D n0 κ μ o h01) enc_0 (by decide) rfl rfl ⟨by decide, by decide⟩ ⟨Nat.zero_le _, Nat.zero_le _⟩ (by simp [Value.category]) dX4_commit_1 rfl rfl ?_
  refine z_aload_n C rfl dX4_commit_4 ?_
  refine z_callV (As := []) (r := none) (σ1 := (cServe (cHd κ), μ, o)) (st := []) (st1 := []) C K ok_X4_108 (c_X4_serveQueue l D n0 (cHd κ) μ o hD1) enc_0 (by decide) rfl rfl ⟨by decide, by decide⟩ ⟨Nat.zero_le _, Nat.zero_le _⟩ (by simp [Value.category]) dX4_commit_5 rfl rfl ?_
  refine z_aload_n C rfl dX4_commit_8 ?_
  refine gf_X4_187 (v := cServe (cHd κ) 0 12) C rfl dX4_commit_9 ?_
  exact z_endI (hret _ _ dX4_commit_12) rfl rfl
set_option maxHeartbeats 4000000 in
set_option maxRecDepth 100000 in
theorem c_X4_cut_t (l : Launch) (hfl : l.stackTraces = false) (D : DD) (n0 : Nat) (κ μ : KH) (o : Int64) (s : Int32) (hs : s < 0 ∨ 2 < s) : HT l D n0 yX4_cut cX4_cut 2 (some .int) 6 82 [.ref (n0 + 0), .int s] (κ, μ, o) cIA := by
  refine HT.of (by decide) (by simp [Value.category]) (by simp) ?_
  intro pp ee ss mm aa bb me cd C K hxt
  show ZZ pp l ee (rmx 6 82) ss mm aa bb me cd D n0 127 2 0 0 _ _ 0 [some (.ref (n0 + 0)), some (.int s)] []
  refine z_iload_n C rfl dX4_cut_0 ?_
  refine z_if_lt (tgt := 9) C dX4_cut_1 (by decide) (fun h_1 => ?_) (fun h_1 => ?_)
  · skip
    exact z_throwS (σ0 := (κ, μ, o)) C K hfl hxt (E := cIA) (by decide +kernel) (by decide +kernel) th4_cIA th5_cIA rfl (List.mem_of_getElem? (i := 12) rfl) th1_cIA th2_cIA th3_cIA dX4_cut_9 dX4_cut_12 dX4_cut_13 dX4_cut_15 dX4_cut_18 ⟨by decide, by decide, by decide, by decide⟩
  · skip
    refine z_iload_n C rfl dX4_cut_4 ?_
    refine z_iconst (v := 2) C (by decide +kernel) dX4_cut_5 ?_
    refine z_icmp_le (tgt := 19) C dX4_cut_6 (by decide) (fun h_6 => ?_) (fun h_6 => ?_)
    · exact absurd hs (fun q => q.elim h_1 (Int32.not_lt.mpr h_6))
    · skip
      exact z_throwS (σ0 := (κ, μ, o)) C K hfl hxt (E := cIA) (by decide +kernel) (by decide +kernel) th4_cIA th5_cIA rfl (List.mem_of_getElem? (i := 12) rfl) th1_cIA th2_cIA th3_cIA dX4_cut_9 dX4_cut_12 dX4_cut_13 dX4_cut_15 dX4_cut_18 ⟨by decide, by decide, by decide, by decide⟩
set_option maxHeartbeats 4000000 in
set_option maxRecDepth 100000 in
theorem c_X4_cut (l : Launch) (D : DD) (n0 : Nat) (κ μ : KH) (o : Int64) (s : Int32) (hs0 : ¬ s < 0) (hs2 : s ≤ 2) (hne : ¬ s = 2) (h36 : ∀ v, v < 16 → is01 (κ (36 + 2 + 2 * v) 0) ∧ is01 (κ (36 + 2 + 2 * v) 1)) : HM l D n0 yX4_cut cX4_cut 2 (some .int) 3 83 [.ref (n0 + 0), .int s] (κ, μ, o) (some (.int (cScp κ 1 36 1 1))) (cCut κ, μ, o) := by
  refine HM.of (by decide) (by simp [Value.category]) (by simp) (Or.inr (Or.inl ⟨_, .int, rfl, rfl, rfl⟩)) ?_
  intro pp ee ss mm aa bb me cd Q C K hret
  show ZZ pp l ee (rmk 3 83) ss mm aa bb me cd D n0 127 2 0 0 Q _ 0 [some (.ref (n0 + 0)), some (.int s)] []
  refine z_iload_n C rfl dX4_cut_0 ?_
  refine z_if_lt (tgt := 9) C dX4_cut_1 (by decide) (fun h_1 => ?_) (fun h_1 => ?_)
  · exact absurd h_1 hs0
  · skip
    refine z_iload_n C rfl dX4_cut_4 ?_
    refine z_iconst (v := 2) C (by decide +kernel) dX4_cut_5 ?_
    refine z_icmp_le (tgt := 19) C dX4_cut_6 (by decide) (fun h_6 => ?_) (fun h_6 => ?_)
    · skip
      refine z_iload_n C rfl dX4_cut_19 ?_
      refine z_iconst (v := 2) C (by decide +kernel) dX4_cut_20 ?_
      refine z_icmp_ne (tgt := 28) C dX4_cut_21 (by decide) (fun h_21 => ?_) (fun h_21 => ?_)
      · skip
        refine z_aload_n C rfl dX4_cut_28 ?_
        refine gf_X4_10 C dX4_cut_29 ?_
        refine z_aload_n C rfl dX4_cut_32 ?_
        refine gf_X4_16 C dX4_cut_33 ?_
        refine z_callV (As := [.ref (n0 + 36)]) (r := none) (σ1 := (cScp κ 1 36, μ, o)) (st := []) (st1 := []) C K ok_X4_192 (c_X2_copy l D n0 κ μ o 1 36 okS1 (Or.inr (Or.inl rfl)) (by decide) h36) (enc_S (Or.inl rfl)) (isS_lt (Or.inl rfl)) rfl rfl ⟨by decide, by decide⟩ ⟨Nat.zero_le _, Nat.zero_le _⟩ (by simp [Value.category]) dX4_cut_36 rfl rfl ?_
        refine z_aload_n C rfl dX4_cut_39 ?_
        refine z_dup C rfl dX4_cut_40 ?_
        refine gf_X4_94 (v := cScp κ 1 36 0 11) C rfl dX4_cut_41 ?_
        refine z_aload_n C rfl dX4_cut_44 ?_
        refine gf_X4_34 C dX4_cut_45 ?_
        refine z_callV (As := []) (r := (some (.int (cScp κ 1 36 108 0)))) (σ1 := (up (cScp κ 1 36) 108 0 0, μ, o)) (st := [.int (cScp κ 1 36 0 11), .ref (n0 + 0)]) (st1 := [.int (cScp κ 1 36 108 0), .int (cScp κ 1 36 0 11), .ref (n0 + 0)]) C K ok_X4_196 (c_X1_removeAll l D n0 (cScp κ 1 36) μ o) enc_Q (by decide) rfl rfl ⟨by decide, by decide⟩ ⟨Nat.zero_le _, Nat.zero_le _⟩ (by simp [Value.category]) dX4_cut_48 rfl rfl ?_
        refine z_iadd (v := (cScp κ 1 36 0 11) + (cScp κ 1 36 108 0)) C rfl dX4_cut_51 ?_
        refine pf_X4_94 (x := (cScp κ 1 36 0 11) + (cScp κ 1 36 108 0)) C dX4_cut_52 ?_
        refine z_aload_n C rfl dX4_cut_55 ?_
        refine z_iconst (v := 0) C (by decide +kernel) dX4_cut_56 ?_
        refine pf_X4_119 (x := 0) C dX4_cut_57 ?_
        refine z_aload_n C rfl dX4_cut_60 ?_
        refine gf_X4_27 C dX4_cut_61 ?_
        refine z_iconst (v := 0) C (by decide +kernel) dX4_cut_64 ?_
        refine pf_X4_161 (x := 0) C dX4_cut_65 ?_
        refine z_aload_n C rfl dX4_cut_68 ?_
        refine gf_X4_10 C dX4_cut_69 ?_
        refine gf_X4_67 (v := up (cScp κ 1 36) 108 0 0 1 1) C (Or.inl rfl) rfl dX4_cut_72 ?_
        exact z_endI (hret _ _ dX4_cut_75) rfl rfl
      · exact absurd h_21 hne
    · exact absurd hs2 h_6
set_option maxHeartbeats 4000000 in
set_option maxRecDepth 100000 in
theorem c_X4_cut_2 (l : Launch) (D : DD) (n0 : Nat) (κ μ : KH) (o : Int64) (h01 : ∀ v, v < 16 → is01 (κ (1 + 2 + 2 * v) 0) ∧ is01 (κ (1 + 2 + 2 * v) 1)) (h36 : ∀ v, v < 16 → is01 (cHd κ (36 + 2 + 2 * v) 0) ∧ is01 (cHd κ (36 + 2 + 2 * v) 1)) : HM l D n0 yX4_cut cX4_cut 2 (some .int) 4 103 [.ref (n0 + 0), .int 2] (κ, μ, o) (some (.int (cScp (cHd κ) 1 36 1 1))) (cCut (cHd κ), μ, o) := by
  refine HM.of (by decide) (by simp [Value.category]) (by simp) (Or.inr (Or.inl ⟨_, .int, rfl, rfl, rfl⟩)) ?_
  intro pp ee ss mm aa bb me cd Q C K hret
  show ZZ pp l ee (rmk 4 103) ss mm aa bb me cd D n0 127 2 0 0 Q _ 0 [some (.ref (n0 + 0)), some (.int 2)] []
  refine z_iload_n C rfl dX4_cut_0 ?_
  refine z_if_lt (tgt := 9) C dX4_cut_1 (by decide) (fun h_1 => ?_) (fun h_1 => ?_)
  · exact absurd h_1 (by decide +kernel)
  · skip
    refine z_iload_n C rfl dX4_cut_4 ?_
    refine z_iconst (v := 2) C (by decide +kernel) dX4_cut_5 ?_
    refine z_icmp_le (tgt := 19) C dX4_cut_6 (by decide) (fun h_6 => ?_) (fun h_6 => ?_)
    · skip
      refine z_iload_n C rfl dX4_cut_19 ?_
      refine z_iconst (v := 2) C (by decide +kernel) dX4_cut_20 ?_
      refine z_icmp_ne (tgt := 28) C dX4_cut_21 (by decide) (fun h_21 => ?_) (fun h_21 => ?_)
      · exact absurd h_21 (by decide +kernel)
      · skip
        refine z_aload_n C rfl dX4_cut_24 ?_
        refine z_callV (As := []) (r := none) (σ1 := (cHd κ, μ, o)) (st := []) (st1 := []) C K ok_X4_184 (c_X4_writeHead l D n0 κ μ o h01) enc_0 (by decide) rfl rfl ⟨by decide, by decide⟩ ⟨Nat.zero_le _, Nat.zero_le _⟩ (by simp [Value.category]) dX4_cut_25 rfl rfl ?_
        refine z_aload_n C rfl dX4_cut_28 ?_
        refine gf_X4_10 C dX4_cut_29 ?_
        refine z_aload_n C rfl dX4_cut_32 ?_
        refine gf_X4_16 C dX4_cut_33 ?_
        refine z_callV (As := [.ref (n0 + 36)]) (r := none) (σ1 := (cScp (cHd κ) 1 36, μ, o)) (st := []) (st1 := []) C K ok_X4_192 (c_X2_copy l D n0 (cHd κ) μ o 1 36 okS1 (Or.inr (Or.inl rfl)) (by decide) h36) (enc_S (Or.inl rfl)) (isS_lt (Or.inl rfl)) rfl rfl ⟨by decide, by decide⟩ ⟨Nat.zero_le _, Nat.zero_le _⟩ (by simp [Value.category]) dX4_cut_36 rfl rfl ?_
        refine z_aload_n C rfl dX4_cut_39 ?_
        refine z_dup C rfl dX4_cut_40 ?_
        refine gf_X4_94 (v := cScp (cHd κ) 1 36 0 11) C rfl dX4_cut_41 ?_
        refine z_aload_n C rfl dX4_cut_44 ?_
        refine gf_X4_34 C dX4_cut_45 ?_
        refine z_callV (As := []) (r := (some (.int (cScp (cHd κ) 1 36 108 0)))) (σ1 := (up (cScp (cHd κ) 1 36) 108 0 0, μ, o)) (st := [.int (cScp (cHd κ) 1 36 0 11), .ref (n0 + 0)]) (st1 := [.int (cScp (cHd κ) 1 36 108 0), .int (cScp (cHd κ) 1 36 0 11), .ref (n0 + 0)]) C K ok_X4_196 (c_X1_removeAll l D n0 (cScp (cHd κ) 1 36) μ o) enc_Q (by decide) rfl rfl ⟨by decide, by decide⟩ ⟨Nat.zero_le _, Nat.zero_le _⟩ (by simp [Value.category]) dX4_cut_48 rfl rfl ?_
        refine z_iadd (v := (cScp (cHd κ) 1 36 0 11) + (cScp (cHd κ) 1 36 108 0)) C rfl dX4_cut_51 ?_
        refine pf_X4_94 (x := (cScp (cHd κ) 1 36 0 11) + (cScp (cHd κ) 1 36 108 0)) C dX4_cut_52 ?_
        refine z_aload_n C rfl dX4_cut_55 ?_
        refine z_iconst (v := 0) C (by decide +kernel) dX4_cut_56 ?_
        refine pf_X4_119 (x := 0) C dX4_cut_57 ?_
        refine z_aload_n C rfl dX4_cut_60 ?_
        refine gf_X4_27 C dX4_cut_61 ?_
        refine z_iconst (v := 0) C (by decide +kernel) dX4_cut_64 ?_
        refine pf_X4_161 (x := 0) C dX4_cut_65 ?_
        refine z_aload_n C rfl dX4_cut_68 ?_
        refine gf_X4_10 C dX4_cut_69 ?_
        refine gf_X4_67 (v := up (cScp (cHd κ) 1 36) 108 0 0 1 1) C (Or.inl rfl) rfl dX4_cut_72 ?_
        exact z_endI (hret _ _ dX4_cut_75) rfl rfl
    · exact absurd h_6 (by decide +kernel)
set_option maxHeartbeats 4000000 in
set_option maxRecDepth 100000 in
theorem c_X4_hold_t (l : Launch) (hfl : l.stackTraces = false) (D : DD) (n0 : Nat) (κ μ : KH) (o : Int64) (hh : κ 0 6 ≠ 0) : HT l D n0 yX4_hold cX4_hold 1 (some .int) 6 82 [.ref (n0 + 0)] (κ, μ, o) cIS := by
  refine HT.of (by decide) (by simp [Value.category]) (by simp) ?_
  intro pp ee ss mm aa bb me cd C K hxt
  show ZZ pp l ee (rmx 6 82) ss mm aa bb me cd D n0 127 1 0 0 _ _ 0 [some (.ref (n0 + 0))] []
  refine z_aload_n C rfl dX4_hold_0 ?_
  refine gf_X4_200 (v := κ 0 6) C rfl dX4_hold_1 ?_
  refine z_if_eq (tgt := 17) C dX4_hold_4 (by decide) (fun h_4 => ?_) (fun h_4 => ?_)
  · exact absurd h_4 hh
  · skip
    exact z_throwS (σ0 := (κ, μ, o)) C K hfl hxt (E := cIS) (by decide +kernel) (by decide +kernel) th4_cIS th5_cIS rfl (List.mem_of_getElem? (i := 13) rfl) th1_cIS th2_cIS th3_cIS dX4_hold_7 dX4_hold_10 dX4_hold_11 dX4_hold_13 dX4_hold_16 ⟨by decide, by decide, by decide, by decide⟩
set_option maxHeartbeats 4000000 in
set_option maxRecDepth 100000 in
theorem c_X4_hold (l : Launch) (D : DD) (n0 : Nat) (κ μ : KH) (o : Int64) (hh : κ 0 6 = 0) (h36 : ∀ v, v < 16 → is01 (κ (36 + 2 + 2 * v) 0) ∧ is01 (κ (36 + 2 + 2 * v) 1)) : HM l D n0 yX4_hold cX4_hold 1 (some .int) 3 83 [.ref (n0 + 0)] (κ, μ, o) (some (.int (cScp κ 71 36 71 1))) (up (cScp κ 71 36) 0 6 1, μ, o) := by
  refine HM.of (by decide) (by simp [Value.category]) (by simp) (Or.inr (Or.inl ⟨_, .int, rfl, rfl, rfl⟩)) ?_
  intro pp ee ss mm aa bb me cd Q C K hret
  show ZZ pp l ee (rmk 3 83) ss mm aa bb me cd D n0 127 1 0 0 Q _ 0 [some (.ref (n0 + 0))] []
  refine z_aload_n C rfl dX4_hold_0 ?_
  refine gf_X4_200 (v := κ 0 6) C rfl dX4_hold_1 ?_
  refine z_if_eq (tgt := 17) C dX4_hold_4 (by decide) (fun h_4 => ?_) (fun h_4 => ?_)
  · skip
    refine z_aload_n C rfl dX4_hold_17 ?_
    refine gf_X4_19 C dX4_hold_18 ?_
    refine z_aload_n C rfl dX4_hold_21 ?_
    refine gf_X4_16 C dX4_hold_22 ?_
    refine z_callV (As := [.ref (n0 + 36)]) (r := none) (σ1 := (cScp κ 71 36, μ, o)) (st := []) (st1 := []) C K ok_X4_192 (c_X2_copy l D n0 κ μ o 71 36 (Or.inr (Or.inr rfl)) (Or.inr (Or.inl rfl)) (by decide) h36) (enc_S (Or.inr (Or.inr rfl))) (isS_lt (Or.inr (Or.inr rfl))) rfl rfl ⟨by decide, by decide⟩ ⟨Nat.zero_le _, Nat.zero_le _⟩ (by simp [Value.category]) dX4_hold_25 rfl rfl ?_
    refine z_aload_n C rfl dX4_hold_28 ?_
    refine z_iconst (v := 1) C (by decide +kernel) dX4_hold_29 ?_
    refine pf_X4_200 (x := 1) C (Or.inr rfl) dX4_hold_30 ?_
    refine z_aload_n C rfl dX4_hold_33 ?_
    refine gf_X4_19 C dX4_hold_34 ?_
    refine gf_X4_67 (v := cScp κ 71 36 71 1) C (Or.inr (Or.inr rfl)) rfl dX4_hold_37 ?_
    exact z_endI (hret _ _ dX4_hold_40) rfl rfl
  · exact absurd hh h_4
set_option maxHeartbeats 4000000 in
set_option maxRecDepth 100000 in
theorem c_X4_release (l : Launch) (D : DD) (n0 : Nat) (κ μ : KH) (o : Int64) (hh : is01 (κ 0 6)) (hD1 : cD (up (cSz κ 71) 0 6 0) (nQc (up (cSz κ 71) 0 6 0))) : HM l D n0 yX4_release cX4_release 2 (some .boolean) 6 135 [.ref (n0 + 0)] (κ, μ, o) (some (.int (κ 0 6))) (cServe (up (cSz κ 71) 0 6 0), μ, o) := by
  refine HM.of (by decide) (by simp [Value.category]) (by simp) (Or.inr (Or.inl ⟨_, .boolean, rfl, rfl, (by rcases hh with h | h <;> rw [h] <;> decide +kernel)⟩)) ?_
  intro pp ee ss mm aa bb me cd Q C K hret
  show ZZ pp l ee (rmk 6 135) ss mm aa bb me cd D n0 127 2 0 0 Q _ 0 [some (.ref (n0 + 0)), none] []
  refine z_aload_n C rfl dX4_release_0 ?_
  refine gf_X4_200 (v := κ 0 6) C rfl dX4_release_1 ?_
  refine z_istore_n (ls' := [some (.ref (n0 + 0)), some (.int (κ 0 6))]) C (by decide) rfl dX4_release_4 ?_
  refine z_aload_n C rfl dX4_release_5 ?_
  refine gf_X4_19 C dX4_release_6 ?_
  refine z_callV (As := []) (r := none) (σ1 := (cSz κ 71, μ, o)) (st := []) (st1 := []) C K ok_X4_205 (c_X2_clear l D n0 κ μ o 71 (Or.inr (Or.inr rfl))) (enc_S (Or.inr (Or.inr rfl))) (isS_lt (Or.inr (Or.inr rfl))) rfl rfl ⟨by decide, by decide⟩ ⟨Nat.zero_le _, Nat.zero_le _⟩ (by simp [Value.category]) dX4_release_9 rfl rfl ?_
  refine z_aload_n C rfl dX4_release_12 ?_
  refine z_iconst (v := 0) C (by decide +kernel) dX4_release_13 ?_
  refine pf_X4_200 (x := 0) C (Or.inl rfl) dX4_release_14 ?_
  refine z_aload_n C rfl dX4_release_17 ?_
  refine z_callV (As := []) (r := none) (σ1 := (cServe (up (cSz κ 71) 0 6 0), μ, o)) (st := []) (st1 := []) C K ok_X4_108 (c_X4_serveQueue l D n0 (up (cSz κ 71) 0 6 0) μ o hD1) enc_0 (by decide) rfl rfl ⟨by decide, by decide⟩ ⟨Nat.zero_le _, Nat.zero_le _⟩ (by simp [Value.category]) dX4_release_18 rfl rfl ?_
  refine z_iload_n C rfl dX4_release_21 ?_
  exact z_endI (hret _ _ dX4_release_22) rfl rfl
set_option maxHeartbeats 4000000 in
set_option maxRecDepth 100000 in
theorem c_X4_patience_t (l : Launch) (hfl : l.stackTraces = false) (D : DD) (n0 : Nat) (κ μ : KH) (o : Int64) (s : Int32) (hs : s < 0 ∨ 1000 < s) : HT l D n0 yX4_patience cX4_patience 3 (some .int) 6 82 [.ref (n0 + 0), .int s] (κ, μ, o) cIA := by
  refine HT.of (by decide) (by simp [Value.category]) (by simp) ?_
  intro pp ee ss mm aa bb me cd C K hxt
  show ZZ pp l ee (rmx 6 82) ss mm aa bb me cd D n0 127 3 0 0 _ _ 0 [some (.ref (n0 + 0)), some (.int s), none] []
  refine z_iload_n C rfl dX4_patience_0 ?_
  refine z_if_lt (tgt := 11) C dX4_patience_1 (by decide) (fun h_1 => ?_) (fun h_1 => ?_)
  · skip
    exact z_throwS (σ0 := (κ, μ, o)) C K hfl hxt (E := cIA) (by decide +kernel) (by decide +kernel) th4_cIA th5_cIA rfl (List.mem_of_getElem? (i := 14) rfl) th1_cIA th2_cIA th3_cIA dX4_patience_11 dX4_patience_14 dX4_patience_15 dX4_patience_17 dX4_patience_20 ⟨by decide, by decide, by decide, by decide⟩
  · skip
    refine z_iload_n C rfl dX4_patience_4 ?_
    refine z_sipush (v := 1000) C (by decide +kernel) dX4_patience_5 ?_
    refine z_icmp_le (tgt := 21) C dX4_patience_8 (by decide) (fun h_8 => ?_) (fun h_8 => ?_)
    · exact absurd hs (fun q => q.elim h_1 (Int32.not_lt.mpr h_8))
    · skip
      exact z_throwS (σ0 := (κ, μ, o)) C K hfl hxt (E := cIA) (by decide +kernel) (by decide +kernel) th4_cIA th5_cIA rfl (List.mem_of_getElem? (i := 14) rfl) th1_cIA th2_cIA th3_cIA dX4_patience_11 dX4_patience_14 dX4_patience_15 dX4_patience_17 dX4_patience_20 ⟨by decide, by decide, by decide, by decide⟩
set_option maxHeartbeats 4000000 in
set_option maxRecDepth 100000 in
theorem c_X4_patience (l : Launch) (D : DD) (n0 : Nat) (κ μ : KH) (o : Int64) (s : Int32) (hs0 : ¬ s < 0) (hs2 : s ≤ 1000) : HM l D n0 yX4_patience cX4_patience 3 (some .int) 0 0 [.ref (n0 + 0), .int s] (κ, μ, o) (some (.int (κ 0 8))) (up κ 0 8 s, μ, o) := by
  refine HM.of (by decide) (by simp [Value.category]) (by simp) (Or.inr (Or.inl ⟨_, .int, rfl, rfl, rfl⟩)) ?_
  intro pp ee ss mm aa bb me cd Q C K hret
  show ZZ pp l ee (rmk 0 0) ss mm aa bb me cd D n0 127 3 0 0 Q _ 0 [some (.ref (n0 + 0)), some (.int s), none] []
  refine z_iload_n C rfl dX4_patience_0 ?_
  refine z_if_lt (tgt := 11) C dX4_patience_1 (by decide) (fun h_1 => ?_) (fun h_1 => ?_)
  · exact absurd h_1 hs0
  · skip
    refine z_iload_n C rfl dX4_patience_4 ?_
    refine z_sipush (v := 1000) C (by decide +kernel) dX4_patience_5 ?_
    refine z_icmp_le (tgt := 21) C dX4_patience_8 (by decide) (fun h_8 => ?_) (fun h_8 => ?_)
    · skip
      refine z_aload_n C rfl dX4_patience_21 ?_
      refine gf_X4_210 (v := κ 0 8) C rfl dX4_patience_22 ?_
      refine z_istore_n (ls' := [some (.ref (n0 + 0)), some (.int s), some (.int (κ 0 8))]) C (by decide) rfl dX4_patience_25 ?_
      refine z_aload_n C rfl dX4_patience_26 ?_
      refine z_iload_n C rfl dX4_patience_27 ?_
      refine pf_X4_210 (x := s) C dX4_patience_28 ?_
      refine z_iload_n C rfl dX4_patience_31 ?_
      exact z_endI (hret _ _ dX4_patience_32) rfl rfl
    · exact absurd hs2 h_8
set_option maxHeartbeats 4000000 in
set_option maxRecDepth 100000 in
theorem c_X4_alarm_t (l : Launch) (hfl : l.stackTraces = false) (D : DD) (n0 : Nat) (κ μ : KH) (o : Int64) (s : Int32) (hs : s < 0 ∨ 96 < s) : HT l D n0 yX4_alarm cX4_alarm 3 (some .int) 6 82 [.ref (n0 + 0), .int s] (κ, μ, o) cIA := by
  refine HT.of (by decide) (by simp [Value.category]) (by simp) ?_
  intro pp ee ss mm aa bb me cd C K hxt
  show ZZ pp l ee (rmx 6 82) ss mm aa bb me cd D n0 127 3 0 0 _ _ 0 [some (.ref (n0 + 0)), some (.int s), none] []
  refine z_iload_n C rfl dX4_alarm_0 ?_
  refine z_if_lt (tgt := 10) C dX4_alarm_1 (by decide) (fun h_1 => ?_) (fun h_1 => ?_)
  · skip
    exact z_throwS (σ0 := (κ, μ, o)) C K hfl hxt (E := cIA) (by decide +kernel) (by decide +kernel) th4_cIA th5_cIA rfl (List.mem_of_getElem? (i := 15) rfl) th1_cIA th2_cIA th3_cIA dX4_alarm_10 dX4_alarm_13 dX4_alarm_14 dX4_alarm_16 dX4_alarm_19 ⟨by decide, by decide, by decide, by decide⟩
  · skip
    refine z_iload_n C rfl dX4_alarm_4 ?_
    refine z_bipush (v := 96) C (by decide +kernel) dX4_alarm_5 ?_
    refine z_icmp_le (tgt := 20) C dX4_alarm_7 (by decide) (fun h_7 => ?_) (fun h_7 => ?_)
    · exact absurd hs (fun q => q.elim h_1 (Int32.not_lt.mpr h_7))
    · skip
      exact z_throwS (σ0 := (κ, μ, o)) C K hfl hxt (E := cIA) (by decide +kernel) (by decide +kernel) th4_cIA th5_cIA rfl (List.mem_of_getElem? (i := 15) rfl) th1_cIA th2_cIA th3_cIA dX4_alarm_10 dX4_alarm_13 dX4_alarm_14 dX4_alarm_16 dX4_alarm_19 ⟨by decide, by decide, by decide, by decide⟩
set_option maxHeartbeats 4000000 in
set_option maxRecDepth 100000 in
theorem c_X4_alarm (l : Launch) (D : DD) (n0 : Nat) (κ μ : KH) (o : Int64) (s : Int32) (hs0 : ¬ s < 0) (hs2 : s ≤ 96) : HM l D n0 yX4_alarm cX4_alarm 3 (some .int) 0 0 [.ref (n0 + 0), .int s] (κ, μ, o) (some (.int (κ 106 2))) (up κ 106 2 s, μ, o) := by
  refine HM.of (by decide) (by simp [Value.category]) (by simp) (Or.inr (Or.inl ⟨_, .int, rfl, rfl, rfl⟩)) ?_
  intro pp ee ss mm aa bb me cd Q C K hret
  show ZZ pp l ee (rmk 0 0) ss mm aa bb me cd D n0 127 3 0 0 Q _ 0 [some (.ref (n0 + 0)), some (.int s), none] []
  refine z_iload_n C rfl dX4_alarm_0 ?_
  refine z_if_lt (tgt := 10) C dX4_alarm_1 (by decide) (fun h_1 => ?_) (fun h_1 => ?_)
  · exact absurd h_1 hs0
  · skip
    refine z_iload_n C rfl dX4_alarm_4 ?_
    refine z_bipush (v := 96) C (by decide +kernel) dX4_alarm_5 ?_
    refine z_icmp_le (tgt := 20) C dX4_alarm_7 (by decide) (fun h_7 => ?_) (fun h_7 => ?_)
    · skip
      refine z_aload_n C rfl dX4_alarm_20 ?_
      refine gf_X4_27 C dX4_alarm_21 ?_
      refine gf_X4_215 (v := κ 106 2) C rfl dX4_alarm_24 ?_
      refine z_istore_n (ls' := [some (.ref (n0 + 0)), some (.int s), some (.int (κ 106 2))]) C (by decide) rfl dX4_alarm_27 ?_
      refine z_aload_n C rfl dX4_alarm_28 ?_
      refine gf_X4_27 C dX4_alarm_29 ?_
      refine z_iload_n C rfl dX4_alarm_32 ?_
      refine pf_X4_215 (x := s) C dX4_alarm_33 ?_
      refine z_iload_n C rfl dX4_alarm_36 ?_
      exact z_endI (hret _ _ dX4_alarm_37) rfl rfl
    · exact absurd hs2 h_7
set_option maxHeartbeats 4000000 in
set_option maxRecDepth 100000 in
theorem c_X4_tick_t (l : Launch) (hfl : l.stackTraces = false) (D : DD) (n0 : Nat) (κ μ : KH) (o : Int64) (s : Int32) (hs : s < 0 ∨ 10000 < s) : HT l D n0 yX4_tick cX4_tick 3 (some .int) 6 82 [.ref (n0 + 0), .int s] (κ, μ, o) cIA := by
  refine HT.of (by decide) (by simp [Value.category]) (by simp) ?_
  intro pp ee ss mm aa bb me cd C K hxt
  show ZZ pp l ee (rmx 6 82) ss mm aa bb me cd D n0 127 3 0 0 _ _ 0 [some (.ref (n0 + 0)), some (.int s), none] []
  refine z_iload_n C rfl dX4_tick_0 ?_
  refine z_if_lt (tgt := 11) C dX4_tick_1 (by decide) (fun h_1 => ?_) (fun h_1 => ?_)
  · skip
    exact z_throwS (σ0 := (κ, μ, o)) C K hfl hxt (E := cIA) (by decide +kernel) (by decide +kernel) th4_cIA th5_cIA rfl (List.mem_of_getElem? (i := 16) rfl) th1_cIA th2_cIA th3_cIA dX4_tick_11 dX4_tick_14 dX4_tick_15 dX4_tick_17 dX4_tick_20 ⟨by decide, by decide, by decide, by decide⟩
  · skip
    refine z_iload_n C rfl dX4_tick_4 ?_
    refine z_sipush (v := 10000) C (by decide +kernel) dX4_tick_5 ?_
    refine z_icmp_le (tgt := 21) C dX4_tick_8 (by decide) (fun h_8 => ?_) (fun h_8 => ?_)
    · exact absurd hs (fun q => q.elim h_1 (Int32.not_lt.mpr h_8))
    · skip
      exact z_throwS (σ0 := (κ, μ, o)) C K hfl hxt (E := cIA) (by decide +kernel) (by decide +kernel) th4_cIA th5_cIA rfl (List.mem_of_getElem? (i := 16) rfl) th1_cIA th2_cIA th3_cIA dX4_tick_11 dX4_tick_14 dX4_tick_15 dX4_tick_17 dX4_tick_20 ⟨by decide, by decide, by decide, by decide⟩
set_option maxHeartbeats 4000000 in
set_option maxRecDepth 100000 in
theorem c_X4_tick_n (l : Launch) (D : DD) (n0 : Nat) (κ μ : KH) (o : Int64) (s : Int32) (hs0 : ¬ s < 0) (hs2 : s ≤ 10000) (hq : κ 0 7 = 1 → κ 0 10 + s < κ 0 9) : HM l D n0 yX4_tick cX4_tick 3 (some .int) 0 0 [.ref (n0 + 0), .int s] (κ, μ, o) (some (.int 0)) (up κ 0 10 (κ 0 10 + s), μ, o) := by
  refine HM.of (by decide) (by simp [Value.category]) (by simp) (Or.inr (Or.inl ⟨_, .int, rfl, rfl, rfl⟩)) ?_
  intro pp ee ss mm aa bb me cd Q C K hret
  show ZZ pp l ee (rmk 0 0) ss mm aa bb me cd D n0 127 3 0 0 Q _ 0 [some (.ref (n0 + 0)), some (.int s), none] []
  refine z_iload_n C rfl dX4_tick_0 ?_
  refine z_if_lt (tgt := 11) C dX4_tick_1 (by decide) (fun h_1 => ?_) (fun h_1 => ?_)
  · exact absurd h_1 hs0
  · skip
    refine z_iload_n C rfl dX4_tick_4 ?_
    refine z_sipush (v := 10000) C (by decide +kernel) dX4_tick_5 ?_
    refine z_icmp_le (tgt := 21) C dX4_tick_8 (by decide) (fun h_8 => ?_) (fun h_8 => ?_)
    · skip
      refine z_aload_n C rfl dX4_tick_21 ?_
      refine z_dup C rfl dX4_tick_22 ?_
      refine gf_X4_220 (v := κ 0 10) C rfl dX4_tick_23 ?_
      refine z_iload_n C rfl dX4_tick_26 ?_
      refine z_iadd (v := (κ 0 10) + s) C rfl dX4_tick_27 ?_
      refine pf_X4_220 (x := (κ 0 10) + s) C dX4_tick_28 ?_
      refine z_aload_n C rfl dX4_tick_31 ?_
      refine gf_X4_119 (v := κ 0 7) C rfl dX4_tick_32 ?_
      refine z_iconst (v := 1) C (by decide +kernel) dX4_tick_35 ?_
      refine z_icmp_ne (tgt := 50) C dX4_tick_36 (by decide) (fun h_36 => ?_) (fun h_36 => ?_)
      · skip
        refine z_iconst (v := 0) C (by decide +kernel) dX4_tick_50 ?_
        exact z_endI (hret _ _ dX4_tick_51) rfl rfl
      · skip
        refine z_aload_n C rfl dX4_tick_39 ?_
        refine gf_X4_220 (v := (κ 0 10) + s) C rfl dX4_tick_40 ?_
        refine z_aload_n C rfl dX4_tick_43 ?_
        refine gf_X4_223 (v := κ 0 9) C rfl dX4_tick_44 ?_
        refine z_icmp_ge (tgt := 52) C dX4_tick_47 (by decide) (fun h_47 => ?_) (fun h_47 => ?_)
        · exact absurd (hq h_36) (Int32.not_lt.mpr h_47)
        · skip
          refine z_iconst (v := 0) C (by decide +kernel) dX4_tick_50 ?_
          exact z_endI (hret _ _ dX4_tick_51) rfl rfl
    · exact absurd hs2 h_8
set_option maxHeartbeats 4000000 in
set_option maxRecDepth 100000 in
theorem c_X4_tick (l : Launch) (D : DD) (n0 : Nat) (κ μ : KH) (o : Int64) (s : Int32) (hs0 : ¬ s < 0) (hs2 : s ≤ 10000) (hq1 : κ 0 7 = 1) (hq : κ 0 9 ≤ κ 0 10 + s) : HM l D n0 yX4_tick cX4_tick 3 (some .int) 1 21 [.ref (n0 + 0), .int s] (κ, μ, o) (some (.int (κ 108 0))) (up (up (up (up κ 0 10 (κ 0 10 + s)) 108 0 0) 0 11 (κ 0 11 + κ 108 0)) 0 7 2, μ, o) := by
  refine HM.of (by decide) (by simp [Value.category]) (by simp) (Or.inr (Or.inl ⟨_, .int, rfl, rfl, rfl⟩)) ?_
  intro pp ee ss mm aa bb me cd Q C K hret
  show ZZ pp l ee (rmk 1 21) ss mm aa bb me cd D n0 127 3 0 0 Q _ 0 [some (.ref (n0 + 0)), some (.int s), none] []
  refine z_iload_n C rfl dX4_tick_0 ?_
  refine z_if_lt (tgt := 11) C dX4_tick_1 (by decide) (fun h_1 => ?_) (fun h_1 => ?_)
  · exact absurd h_1 hs0
  · skip
    refine z_iload_n C rfl dX4_tick_4 ?_
    refine z_sipush (v := 10000) C (by decide +kernel) dX4_tick_5 ?_
    refine z_icmp_le (tgt := 21) C dX4_tick_8 (by decide) (fun h_8 => ?_) (fun h_8 => ?_)
    · skip
      refine z_aload_n C rfl dX4_tick_21 ?_
      refine z_dup C rfl dX4_tick_22 ?_
      refine gf_X4_220 (v := κ 0 10) C rfl dX4_tick_23 ?_
      refine z_iload_n C rfl dX4_tick_26 ?_
      refine z_iadd (v := (κ 0 10) + s) C rfl dX4_tick_27 ?_
      refine pf_X4_220 (x := (κ 0 10) + s) C dX4_tick_28 ?_
      refine z_aload_n C rfl dX4_tick_31 ?_
      refine gf_X4_119 (v := κ 0 7) C rfl dX4_tick_32 ?_
      refine z_iconst (v := 1) C (by decide +kernel) dX4_tick_35 ?_
      refine z_icmp_ne (tgt := 50) C dX4_tick_36 (by decide) (fun h_36 => ?_) (fun h_36 => ?_)
      · exact absurd hq1 h_36
      · skip
        refine z_aload_n C rfl dX4_tick_39 ?_
        refine gf_X4_220 (v := (κ 0 10) + s) C rfl dX4_tick_40 ?_
        refine z_aload_n C rfl dX4_tick_43 ?_
        refine gf_X4_223 (v := κ 0 9) C rfl dX4_tick_44 ?_
        refine z_icmp_ge (tgt := 52) C dX4_tick_47 (by decide) (fun h_47 => ?_) (fun h_47 => ?_)
        · skip
          refine z_aload_n C rfl dX4_tick_52 ?_
          refine gf_X4_34 C dX4_tick_53 ?_
          refine z_callV (As := []) (r := (some (.int (κ 108 0)))) (σ1 := (up (up κ 0 10 ((κ 0 10) + s)) 108 0 0, μ, o)) (st := []) (st1 := [.int (κ 108 0)]) C K ok_X4_196 (c_X1_removeAll l D n0 (up κ 0 10 ((κ 0 10) + s)) μ o) enc_Q (by decide) rfl rfl ⟨by decide, by decide⟩ ⟨Nat.zero_le _, Nat.zero_le _⟩ (by simp [Value.category]) dX4_tick_56 rfl rfl ?_
          refine z_istore_n (ls' := [some (.ref (n0 + 0)), some (.int s), some (.int (κ 108 0))]) C (by decide) rfl dX4_tick_59 ?_
          refine z_aload_n C rfl dX4_tick_60 ?_
          refine z_dup C rfl dX4_tick_61 ?_
          refine gf_X4_94 (v := κ 0 11) C rfl dX4_tick_62 ?_
          refine z_iload_n C rfl dX4_tick_65 ?_
          refine z_iadd (v := (κ 0 11) + (κ 108 0)) C rfl dX4_tick_66 ?_
          refine pf_X4_94 (x := (κ 0 11) + (κ 108 0)) C dX4_tick_67 ?_
          refine z_aload_n C rfl dX4_tick_70 ?_
          refine z_iconst (v := 2) C (by decide +kernel) dX4_tick_71 ?_
          refine pf_X4_119 (x := 2) C dX4_tick_72 ?_
          refine z_iload_n C rfl dX4_tick_75 ?_
          exact z_endI (hret _ _ dX4_tick_76) rfl rfl
        · exact absurd hq h_47
    · exact absurd hs2 h_8
set_option maxHeartbeats 4000000 in
set_option maxRecDepth 100000 in
theorem c_X4_map_t (l : Launch) (hfl : l.stackTraces = false) (D : DD) (n0 : Nat) (κ μ : KH) (o : Int64) (s v q : Int32) (hs : s < 0 ∨ 2 < s) : HT l D n0 yX4_map cX4_map 6 (some .int) 7 103 [.ref (n0 + 0), .int s, .int v, .int q] (κ, μ, o) cIA := by
  refine HT.of (by decide) (by simp [Value.category]) (by simp) ?_
  intro pp ee ss mm aa bb me cd C K hxt
  show ZZ pp l ee (rmx 7 103) ss mm aa bb me cd D n0 127 6 0 0 _ _ 0 [some (.ref (n0 + 0)), some (.int s), some (.int v), some (.int q), none, none] []
  refine z_aload_n C rfl dX4_map_0 ?_
  refine z_iload_n C rfl dX4_map_1 ?_
  refine z_callVT (As := [.int s]) (E := cIA) (st := []) C K ok_X4_180 (c_X4_stateOf_t l hfl D n0 κ μ o s hs) enc_0 (by decide) rfl rfl ⟨by decide, by decide⟩ ⟨by decide, by decide⟩ (by simp [Value.category]) dX4_map_2 rfl ?_
  exact fun H locs lsA q9 ce hP hS _ h1 h2 h3 => z_out (σ0 := (κ, μ, o)) (a0 := aa) hxt C.2.2.2.2.2.2.2 hP hS h1 h2 h3
set_option maxHeartbeats 4000000 in
set_option maxRecDepth 100000 in
theorem c_X4_map_0v (l : Launch) (hfl : l.stackTraces = false) (D : DD) (n0 : Nat) (κ μ : KH) (o : Int64) (v q : Int32) (hv : vNum v = false) : HT l D n0 yX4_map cX4_map 6 (some .int) 6 82 [.ref (n0 + 0), .int 0, .int v, .int q] (κ, μ, o) cIO := by
  refine HT.of (by decide) (by simp [Value.category]) (by simp) ?_
  intro pp ee ss mm aa bb me cd C K hxt
  show ZZ pp l ee (rmx 6 82) ss mm aa bb me cd D n0 127 6 0 0 _ _ 0 [some (.ref (n0 + 0)), some (.int 0), some (.int v), some (.int q), none, none] []
  refine z_aload_n C rfl dX4_map_0 ?_
  refine z_iload_n C rfl dX4_map_1 ?_
  refine z_callV (As := [.int 0]) (r := (some (.ref (n0 + 1)))) (σ1 := (κ, μ, o)) (st := []) (st1 := [.ref (n0 + 1)]) C K ok_X4_180 (c_X4_stateOf_0 l D n0 κ μ o) enc_0 (by decide) rfl rfl ⟨by decide, by decide⟩ ⟨Nat.zero_le _, Nat.zero_le _⟩ (by simp [Value.category]) dX4_map_2 rfl rfl ?_
  refine z_astore (ls' := [some (.ref (n0 + 0)), some (.int 0), some (.int v), some (.int q), some (.ref (n0 + 1)), none]) C (by decide) rfl dX4_map_5 ?_
  refine z_aload C rfl dX4_map_7 ?_
  refine z_iload_n C rfl dX4_map_9 ?_
  refine z_callV (As := [.int v]) (r := (some (.null))) (σ1 := (κ, μ, o)) (st := []) (st1 := [.null]) C K ok_X4_226 (c_X2_slot_n l D n0 κ μ o 1 v (Or.inl rfl) hv) (enc_S (Or.inl rfl)) (isS_lt (Or.inl rfl)) rfl rfl ⟨by decide, by decide⟩ ⟨Nat.zero_le _, Nat.zero_le _⟩ (by simp [Value.category]) dX4_map_10 rfl rfl ?_
  refine z_astoreN (ls' := [some (.ref (n0 + 0)), some (.int 0), some (.int v), some (.int q), some (.ref (n0 + 1)), some (.null)]) C (by decide) rfl dX4_map_13 ?_
  refine z_aloadN C rfl dX4_map_15 ?_
  refine z_ifnullN (tgt := 30) C dX4_map_17 (by decide) ?_
  exact z_throwS (σ0 := (κ, μ, o)) C K hfl hxt (E := cIO) (by decide +kernel) (by decide +kernel) th4_cIO th5_cIO rfl (List.mem_of_getElem? (i := 17) rfl) th1_cIO th2_cIO th3_cIO dX4_map_30 dX4_map_33 dX4_map_34 dX4_map_36 dX4_map_39 ⟨by decide, by decide, by decide, by decide⟩
set_option maxHeartbeats 4000000 in
set_option maxRecDepth 100000 in
theorem c_X4_map_0p (l : Launch) (hfl : l.stackTraces = false) (D : DD) (n0 : Nat) (κ μ : KH) (o : Int64) (j : Nat) (q : Int32) (hj : j < 16) (hq : q < 0 ∨ 40 ≤ q) : HT l D n0 yX4_map cX4_map 6 (some .int) 6 82 [.ref (n0 + 0), .int 0, .int (nI j), .int q] (κ, μ, o) cIO := by
  refine HT.of (by decide) (by simp [Value.category]) (by simp) ?_
  intro pp ee ss mm aa bb me cd C K hxt
  show ZZ pp l ee (rmx 6 82) ss mm aa bb me cd D n0 127 6 0 0 _ _ 0 [some (.ref (n0 + 0)), some (.int 0), some (.int (nI j)), some (.int q), none, none] []
  refine z_aload_n C rfl dX4_map_0 ?_
  refine z_iload_n C rfl dX4_map_1 ?_
  refine z_callV (As := [.int 0]) (r := (some (.ref (n0 + 1)))) (σ1 := (κ, μ, o)) (st := []) (st1 := [.ref (n0 + 1)]) C K ok_X4_180 (c_X4_stateOf_0 l D n0 κ μ o) enc_0 (by decide) rfl rfl ⟨by decide, by decide⟩ ⟨Nat.zero_le _, Nat.zero_le _⟩ (by simp [Value.category]) dX4_map_2 rfl rfl ?_
  refine z_astore (ls' := [some (.ref (n0 + 0)), some (.int 0), some (.int (nI j)), some (.int q), some (.ref (n0 + 1)), none]) C (by decide) rfl dX4_map_5 ?_
  refine z_aload C rfl dX4_map_7 ?_
  refine z_iload_n C rfl dX4_map_9 ?_
  refine z_callV (As := [.int (nI j)]) (r := (some (.ref (n0 + (cVk j))))) (σ1 := (κ, μ, o)) (st := []) (st1 := [.ref (n0 + (cVk j))]) C K ok_X4_226 (c_X2_slot l D n0 κ μ o 1 j (Or.inl rfl) (by omega)) (enc_S (Or.inl rfl)) (isS_lt (Or.inl rfl)) rfl rfl ⟨by decide, by decide⟩ ⟨Nat.zero_le _, Nat.zero_le _⟩ (by simp [Value.category]) dX4_map_10 rfl rfl ?_
  refine z_astore (ls' := [some (.ref (n0 + 0)), some (.int 0), some (.int (nI j)), some (.int q), some (.ref (n0 + 1)), some (.ref (n0 + (cVk j)))]) C (by decide) rfl dX4_map_13 ?_
  refine z_aload C rfl dX4_map_15 ?_
  refine z_ifnull C dX4_map_17 ?_
  refine z_iload_n C rfl dX4_map_20 ?_
  refine z_if_lt (tgt := 30) C dX4_map_21 (by decide) (fun h_21 => ?_) (fun h_21 => ?_)
  · skip
    exact z_throwS (σ0 := (κ, μ, o)) C K hfl hxt (E := cIO) (by decide +kernel) (by decide +kernel) th4_cIO th5_cIO rfl (List.mem_of_getElem? (i := 17) rfl) th1_cIO th2_cIO th3_cIO dX4_map_30 dX4_map_33 dX4_map_34 dX4_map_36 dX4_map_39 ⟨by decide, by decide, by decide, by decide⟩
  · skip
    refine z_iload_n C rfl dX4_map_24 ?_
    refine z_bipush (v := 40) C (by decide +kernel) dX4_map_25 ?_
    refine z_icmp_lt (tgt := 40) C dX4_map_27 (by decide) (fun h_27 => ?_) (fun h_27 => ?_)
    · exact absurd hq (fun z => z.elim h_21 (Int32.not_le.mpr h_27))
    · skip
      exact z_throwS (σ0 := (κ, μ, o)) C K hfl hxt (E := cIO) (by decide +kernel) (by decide +kernel) th4_cIO th5_cIO rfl (List.mem_of_getElem? (i := 17) rfl) th1_cIO th2_cIO th3_cIO dX4_map_30 dX4_map_33 dX4_map_34 dX4_map_36 dX4_map_39 ⟨by decide, by decide, by decide, by decide⟩
set_option maxHeartbeats 4000000 in
set_option maxRecDepth 100000 in
theorem c_X4_map_0 (l : Launch) (D : DD) (n0 : Nat) (κ μ : KH) (o : Int64) (j q : Nat) (hj : j < 16) (hq : q < 40) : HM l D n0 yX4_map cX4_map 6 (some .int) 1 21 [.ref (n0 + 0), .int 0, .int (nI j), .int (nI q)] (κ, μ, o) (some (.int (κ ((cVk j) + 1) q))) (κ, μ, o) := by
  refine HM.of (by decide) (by simp [Value.category]) (by simp) (Or.inr (Or.inl ⟨_, .int, rfl, rfl, rfl⟩)) ?_
  intro pp ee ss mm aa bb me cd Q C K hret
  show ZZ pp l ee (rmk 1 21) ss mm aa bb me cd D n0 127 6 0 0 Q _ 0 [some (.ref (n0 + 0)), some (.int 0), some (.int (nI j)), some (.int (nI q)), none, none] []
  refine z_aload_n C rfl dX4_map_0 ?_
  refine z_iload_n C rfl dX4_map_1 ?_
  refine z_callV (As := [.int 0]) (r := (some (.ref (n0 + 1)))) (σ1 := (κ, μ, o)) (st := []) (st1 := [.ref (n0 + 1)]) C K ok_X4_180 (c_X4_stateOf_0 l D n0 κ μ o) enc_0 (by decide) rfl rfl ⟨by decide, by decide⟩ ⟨Nat.zero_le _, Nat.zero_le _⟩ (by simp [Value.category]) dX4_map_2 rfl rfl ?_
  refine z_astore (ls' := [some (.ref (n0 + 0)), some (.int 0), some (.int (nI j)), some (.int (nI q)), some (.ref (n0 + 1)), none]) C (by decide) rfl dX4_map_5 ?_
  refine z_aload C rfl dX4_map_7 ?_
  refine z_iload_n C rfl dX4_map_9 ?_
  refine z_callV (As := [.int (nI j)]) (r := (some (.ref (n0 + (cVk j))))) (σ1 := (κ, μ, o)) (st := []) (st1 := [.ref (n0 + (cVk j))]) C K ok_X4_226 (c_X2_slot l D n0 κ μ o 1 j (Or.inl rfl) (by omega)) (enc_S (Or.inl rfl)) (isS_lt (Or.inl rfl)) rfl rfl ⟨by decide, by decide⟩ ⟨Nat.zero_le _, Nat.zero_le _⟩ (by simp [Value.category]) dX4_map_10 rfl rfl ?_
  refine z_astore (ls' := [some (.ref (n0 + 0)), some (.int 0), some (.int (nI j)), some (.int (nI q)), some (.ref (n0 + 1)), some (.ref (n0 + (cVk j)))]) C (by decide) rfl dX4_map_13 ?_
  refine z_aload C rfl dX4_map_15 ?_
  refine z_ifnull C dX4_map_17 ?_
  refine z_iload_n C rfl dX4_map_20 ?_
  refine z_if_lt (tgt := 30) C dX4_map_21 (by decide) (fun h_21 => ?_) (fun h_21 => ?_)
  · exact absurd h_21 (nI_pos (by omega))
  · skip
    refine z_iload_n C rfl dX4_map_24 ?_
    refine z_bipush (v := 40) C (by decide +kernel) dX4_map_25 ?_
    refine z_icmp_lt (tgt := 40) C dX4_map_27 (by decide) (fun h_27 => ?_) (fun h_27 => ?_)
    · have g_27 := cv_lt (a := q) (b := 40) (by omega) (by omega) h_27
      refine z_aload C rfl dX4_map_40 ?_
      refine z_iload_n C rfl dX4_map_42 ?_
      refine z_callV (As := [.int (nI q)]) (r := (some (.int (κ ((cVk j) + 1) q)))) (σ1 := (κ, μ, o)) (st := []) (st1 := [.int (κ ((cVk j) + 1) q)]) C K ok_X4_83 (c_X3_extentOf l D n0 κ μ o (cVk j) q (κ ((cVk j) + 1) q) (isVk hj) (by omega) rfl) (enc_V (isVk hj)) (isV_lt (isVk hj)) rfl rfl ⟨by decide, by decide⟩ ⟨Nat.zero_le _, Nat.zero_le _⟩ (by simp [Value.category]) dX4_map_43 rfl rfl ?_
      exact z_endI (hret _ _ dX4_map_46) rfl rfl
    · have g_27 := cv_nlt (a := q) (b := 40) (by omega) (by omega) h_27
      exact absurd g_27 (by omega)
set_option maxHeartbeats 4000000 in
set_option maxRecDepth 100000 in
theorem c_X4_map_1v (l : Launch) (hfl : l.stackTraces = false) (D : DD) (n0 : Nat) (κ μ : KH) (o : Int64) (v q : Int32) (hv : vNum v = false) : HT l D n0 yX4_map cX4_map 6 (some .int) 6 82 [.ref (n0 + 0), .int 1, .int v, .int q] (κ, μ, o) cIO := by
  refine HT.of (by decide) (by simp [Value.category]) (by simp) ?_
  intro pp ee ss mm aa bb me cd C K hxt
  show ZZ pp l ee (rmx 6 82) ss mm aa bb me cd D n0 127 6 0 0 _ _ 0 [some (.ref (n0 + 0)), some (.int 1), some (.int v), some (.int q), none, none] []
  refine z_aload_n C rfl dX4_map_0 ?_
  refine z_iload_n C rfl dX4_map_1 ?_
  refine z_callV (As := [.int 1]) (r := (some (.ref (n0 + 36)))) (σ1 := (κ, μ, o)) (st := []) (st1 := [.ref (n0 + 36)]) C K ok_X4_180 (c_X4_stateOf_1 l D n0 κ μ o) enc_0 (by decide) rfl rfl ⟨by decide, by decide⟩ ⟨Nat.zero_le _, Nat.zero_le _⟩ (by simp [Value.category]) dX4_map_2 rfl rfl ?_
  refine z_astore (ls' := [some (.ref (n0 + 0)), some (.int 1), some (.int v), some (.int q), some (.ref (n0 + 36)), none]) C (by decide) rfl dX4_map_5 ?_
  refine z_aload C rfl dX4_map_7 ?_
  refine z_iload_n C rfl dX4_map_9 ?_
  refine z_callV (As := [.int v]) (r := (some (.null))) (σ1 := (κ, μ, o)) (st := []) (st1 := [.null]) C K ok_X4_226 (c_X2_slot_n l D n0 κ μ o 36 v (Or.inr (Or.inl rfl)) hv) (enc_S (Or.inr (Or.inl rfl))) (isS_lt (Or.inr (Or.inl rfl))) rfl rfl ⟨by decide, by decide⟩ ⟨Nat.zero_le _, Nat.zero_le _⟩ (by simp [Value.category]) dX4_map_10 rfl rfl ?_
  refine z_astoreN (ls' := [some (.ref (n0 + 0)), some (.int 1), some (.int v), some (.int q), some (.ref (n0 + 36)), some (.null)]) C (by decide) rfl dX4_map_13 ?_
  refine z_aloadN C rfl dX4_map_15 ?_
  refine z_ifnullN (tgt := 30) C dX4_map_17 (by decide) ?_
  exact z_throwS (σ0 := (κ, μ, o)) C K hfl hxt (E := cIO) (by decide +kernel) (by decide +kernel) th4_cIO th5_cIO rfl (List.mem_of_getElem? (i := 17) rfl) th1_cIO th2_cIO th3_cIO dX4_map_30 dX4_map_33 dX4_map_34 dX4_map_36 dX4_map_39 ⟨by decide, by decide, by decide, by decide⟩
set_option maxHeartbeats 4000000 in
set_option maxRecDepth 100000 in
theorem c_X4_map_1p (l : Launch) (hfl : l.stackTraces = false) (D : DD) (n0 : Nat) (κ μ : KH) (o : Int64) (j : Nat) (q : Int32) (hj : j < 16) (hq : q < 0 ∨ 40 ≤ q) : HT l D n0 yX4_map cX4_map 6 (some .int) 6 82 [.ref (n0 + 0), .int 1, .int (nI j), .int q] (κ, μ, o) cIO := by
  refine HT.of (by decide) (by simp [Value.category]) (by simp) ?_
  intro pp ee ss mm aa bb me cd C K hxt
  show ZZ pp l ee (rmx 6 82) ss mm aa bb me cd D n0 127 6 0 0 _ _ 0 [some (.ref (n0 + 0)), some (.int 1), some (.int (nI j)), some (.int q), none, none] []
  refine z_aload_n C rfl dX4_map_0 ?_
  refine z_iload_n C rfl dX4_map_1 ?_
  refine z_callV (As := [.int 1]) (r := (some (.ref (n0 + 36)))) (σ1 := (κ, μ, o)) (st := []) (st1 := [.ref (n0 + 36)]) C K ok_X4_180 (c_X4_stateOf_1 l D n0 κ μ o) enc_0 (by decide) rfl rfl ⟨by decide, by decide⟩ ⟨Nat.zero_le _, Nat.zero_le _⟩ (by simp [Value.category]) dX4_map_2 rfl rfl ?_
  refine z_astore (ls' := [some (.ref (n0 + 0)), some (.int 1), some (.int (nI j)), some (.int q), some (.ref (n0 + 36)), none]) C (by decide) rfl dX4_map_5 ?_
  refine z_aload C rfl dX4_map_7 ?_
  refine z_iload_n C rfl dX4_map_9 ?_
  refine z_callV (As := [.int (nI j)]) (r := (some (.ref (n0 + (36 + 2 + 2 * j))))) (σ1 := (κ, μ, o)) (st := []) (st1 := [.ref (n0 + (36 + 2 + 2 * j))]) C K ok_X4_226 (c_X2_slot l D n0 κ μ o 36 j (Or.inr (Or.inl rfl)) (by omega)) (enc_S (Or.inr (Or.inl rfl))) (isS_lt (Or.inr (Or.inl rfl))) rfl rfl ⟨by decide, by decide⟩ ⟨Nat.zero_le _, Nat.zero_le _⟩ (by simp [Value.category]) dX4_map_10 rfl rfl ?_
  refine z_astore (ls' := [some (.ref (n0 + 0)), some (.int 1), some (.int (nI j)), some (.int q), some (.ref (n0 + 36)), some (.ref (n0 + (36 + 2 + 2 * j)))]) C (by decide) rfl dX4_map_13 ?_
  refine z_aload C rfl dX4_map_15 ?_
  refine z_ifnull C dX4_map_17 ?_
  refine z_iload_n C rfl dX4_map_20 ?_
  refine z_if_lt (tgt := 30) C dX4_map_21 (by decide) (fun h_21 => ?_) (fun h_21 => ?_)
  · skip
    exact z_throwS (σ0 := (κ, μ, o)) C K hfl hxt (E := cIO) (by decide +kernel) (by decide +kernel) th4_cIO th5_cIO rfl (List.mem_of_getElem? (i := 17) rfl) th1_cIO th2_cIO th3_cIO dX4_map_30 dX4_map_33 dX4_map_34 dX4_map_36 dX4_map_39 ⟨by decide, by decide, by decide, by decide⟩
  · skip
    refine z_iload_n C rfl dX4_map_24 ?_
    refine z_bipush (v := 40) C (by decide +kernel) dX4_map_25 ?_
    refine z_icmp_lt (tgt := 40) C dX4_map_27 (by decide) (fun h_27 => ?_) (fun h_27 => ?_)
    · exact absurd hq (fun z => z.elim h_21 (Int32.not_le.mpr h_27))
    · skip
      exact z_throwS (σ0 := (κ, μ, o)) C K hfl hxt (E := cIO) (by decide +kernel) (by decide +kernel) th4_cIO th5_cIO rfl (List.mem_of_getElem? (i := 17) rfl) th1_cIO th2_cIO th3_cIO dX4_map_30 dX4_map_33 dX4_map_34 dX4_map_36 dX4_map_39 ⟨by decide, by decide, by decide, by decide⟩
set_option maxHeartbeats 4000000 in
set_option maxRecDepth 100000 in
theorem c_X4_map_1 (l : Launch) (D : DD) (n0 : Nat) (κ μ : KH) (o : Int64) (j q : Nat) (hj : j < 16) (hq : q < 40) : HM l D n0 yX4_map cX4_map 6 (some .int) 1 21 [.ref (n0 + 0), .int 1, .int (nI j), .int (nI q)] (κ, μ, o) (some (.int (κ ((36 + 2 + 2 * j) + 1) q))) (κ, μ, o) := by
  refine HM.of (by decide) (by simp [Value.category]) (by simp) (Or.inr (Or.inl ⟨_, .int, rfl, rfl, rfl⟩)) ?_
  intro pp ee ss mm aa bb me cd Q C K hret
  show ZZ pp l ee (rmk 1 21) ss mm aa bb me cd D n0 127 6 0 0 Q _ 0 [some (.ref (n0 + 0)), some (.int 1), some (.int (nI j)), some (.int (nI q)), none, none] []
  refine z_aload_n C rfl dX4_map_0 ?_
  refine z_iload_n C rfl dX4_map_1 ?_
  refine z_callV (As := [.int 1]) (r := (some (.ref (n0 + 36)))) (σ1 := (κ, μ, o)) (st := []) (st1 := [.ref (n0 + 36)]) C K ok_X4_180 (c_X4_stateOf_1 l D n0 κ μ o) enc_0 (by decide) rfl rfl ⟨by decide, by decide⟩ ⟨Nat.zero_le _, Nat.zero_le _⟩ (by simp [Value.category]) dX4_map_2 rfl rfl ?_
  refine z_astore (ls' := [some (.ref (n0 + 0)), some (.int 1), some (.int (nI j)), some (.int (nI q)), some (.ref (n0 + 36)), none]) C (by decide) rfl dX4_map_5 ?_
  refine z_aload C rfl dX4_map_7 ?_
  refine z_iload_n C rfl dX4_map_9 ?_
  refine z_callV (As := [.int (nI j)]) (r := (some (.ref (n0 + (36 + 2 + 2 * j))))) (σ1 := (κ, μ, o)) (st := []) (st1 := [.ref (n0 + (36 + 2 + 2 * j))]) C K ok_X4_226 (c_X2_slot l D n0 κ μ o 36 j (Or.inr (Or.inl rfl)) (by omega)) (enc_S (Or.inr (Or.inl rfl))) (isS_lt (Or.inr (Or.inl rfl))) rfl rfl ⟨by decide, by decide⟩ ⟨Nat.zero_le _, Nat.zero_le _⟩ (by simp [Value.category]) dX4_map_10 rfl rfl ?_
  refine z_astore (ls' := [some (.ref (n0 + 0)), some (.int 1), some (.int (nI j)), some (.int (nI q)), some (.ref (n0 + 36)), some (.ref (n0 + (36 + 2 + 2 * j)))]) C (by decide) rfl dX4_map_13 ?_
  refine z_aload C rfl dX4_map_15 ?_
  refine z_ifnull C dX4_map_17 ?_
  refine z_iload_n C rfl dX4_map_20 ?_
  refine z_if_lt (tgt := 30) C dX4_map_21 (by decide) (fun h_21 => ?_) (fun h_21 => ?_)
  · exact absurd h_21 (nI_pos (by omega))
  · skip
    refine z_iload_n C rfl dX4_map_24 ?_
    refine z_bipush (v := 40) C (by decide +kernel) dX4_map_25 ?_
    refine z_icmp_lt (tgt := 40) C dX4_map_27 (by decide) (fun h_27 => ?_) (fun h_27 => ?_)
    · have g_27 := cv_lt (a := q) (b := 40) (by omega) (by omega) h_27
      refine z_aload C rfl dX4_map_40 ?_
      refine z_iload_n C rfl dX4_map_42 ?_
      refine z_callV (As := [.int (nI q)]) (r := (some (.int (κ ((36 + 2 + 2 * j) + 1) q)))) (σ1 := (κ, μ, o)) (st := []) (st1 := [.int (κ ((36 + 2 + 2 * j) + 1) q)]) C K ok_X4_83 (c_X3_extentOf l D n0 κ μ o (36 + 2 + 2 * j) q (κ ((36 + 2 + 2 * j) + 1) q) (isV_of (Or.inr (Or.inl rfl)) hj) (by omega) rfl) (enc_V (isV_of (Or.inr (Or.inl rfl)) hj)) (isV_lt (isV_of (Or.inr (Or.inl rfl)) hj)) rfl rfl ⟨by decide, by decide⟩ ⟨Nat.zero_le _, Nat.zero_le _⟩ (by simp [Value.category]) dX4_map_43 rfl rfl ?_
      exact z_endI (hret _ _ dX4_map_46) rfl rfl
    · have g_27 := cv_nlt (a := q) (b := 40) (by omega) (by omega) h_27
      exact absurd g_27 (by omega)
set_option maxHeartbeats 4000000 in
set_option maxRecDepth 100000 in
theorem c_X4_map_2v (l : Launch) (hfl : l.stackTraces = false) (D : DD) (n0 : Nat) (κ μ : KH) (o : Int64) (v q : Int32) (hv : vNum v = false) : HT l D n0 yX4_map cX4_map 6 (some .int) 6 82 [.ref (n0 + 0), .int 2, .int v, .int q] (κ, μ, o) cIO := by
  refine HT.of (by decide) (by simp [Value.category]) (by simp) ?_
  intro pp ee ss mm aa bb me cd C K hxt
  show ZZ pp l ee (rmx 6 82) ss mm aa bb me cd D n0 127 6 0 0 _ _ 0 [some (.ref (n0 + 0)), some (.int 2), some (.int v), some (.int q), none, none] []
  refine z_aload_n C rfl dX4_map_0 ?_
  refine z_iload_n C rfl dX4_map_1 ?_
  refine z_callV (As := [.int 2]) (r := (some (.ref (n0 + 71)))) (σ1 := (κ, μ, o)) (st := []) (st1 := [.ref (n0 + 71)]) C K ok_X4_180 (c_X4_stateOf_2 l D n0 κ μ o) enc_0 (by decide) rfl rfl ⟨by decide, by decide⟩ ⟨Nat.zero_le _, Nat.zero_le _⟩ (by simp [Value.category]) dX4_map_2 rfl rfl ?_
  refine z_astore (ls' := [some (.ref (n0 + 0)), some (.int 2), some (.int v), some (.int q), some (.ref (n0 + 71)), none]) C (by decide) rfl dX4_map_5 ?_
  refine z_aload C rfl dX4_map_7 ?_
  refine z_iload_n C rfl dX4_map_9 ?_
  refine z_callV (As := [.int v]) (r := (some (.null))) (σ1 := (κ, μ, o)) (st := []) (st1 := [.null]) C K ok_X4_226 (c_X2_slot_n l D n0 κ μ o 71 v (Or.inr (Or.inr rfl)) hv) (enc_S (Or.inr (Or.inr rfl))) (isS_lt (Or.inr (Or.inr rfl))) rfl rfl ⟨by decide, by decide⟩ ⟨Nat.zero_le _, Nat.zero_le _⟩ (by simp [Value.category]) dX4_map_10 rfl rfl ?_
  refine z_astoreN (ls' := [some (.ref (n0 + 0)), some (.int 2), some (.int v), some (.int q), some (.ref (n0 + 71)), some (.null)]) C (by decide) rfl dX4_map_13 ?_
  refine z_aloadN C rfl dX4_map_15 ?_
  refine z_ifnullN (tgt := 30) C dX4_map_17 (by decide) ?_
  exact z_throwS (σ0 := (κ, μ, o)) C K hfl hxt (E := cIO) (by decide +kernel) (by decide +kernel) th4_cIO th5_cIO rfl (List.mem_of_getElem? (i := 17) rfl) th1_cIO th2_cIO th3_cIO dX4_map_30 dX4_map_33 dX4_map_34 dX4_map_36 dX4_map_39 ⟨by decide, by decide, by decide, by decide⟩
set_option maxHeartbeats 4000000 in
set_option maxRecDepth 100000 in
theorem c_X4_map_2p (l : Launch) (hfl : l.stackTraces = false) (D : DD) (n0 : Nat) (κ μ : KH) (o : Int64) (j : Nat) (q : Int32) (hj : j < 16) (hq : q < 0 ∨ 40 ≤ q) : HT l D n0 yX4_map cX4_map 6 (some .int) 6 82 [.ref (n0 + 0), .int 2, .int (nI j), .int q] (κ, μ, o) cIO := by
  refine HT.of (by decide) (by simp [Value.category]) (by simp) ?_
  intro pp ee ss mm aa bb me cd C K hxt
  show ZZ pp l ee (rmx 6 82) ss mm aa bb me cd D n0 127 6 0 0 _ _ 0 [some (.ref (n0 + 0)), some (.int 2), some (.int (nI j)), some (.int q), none, none] []
  refine z_aload_n C rfl dX4_map_0 ?_
  refine z_iload_n C rfl dX4_map_1 ?_
  refine z_callV (As := [.int 2]) (r := (some (.ref (n0 + 71)))) (σ1 := (κ, μ, o)) (st := []) (st1 := [.ref (n0 + 71)]) C K ok_X4_180 (c_X4_stateOf_2 l D n0 κ μ o) enc_0 (by decide) rfl rfl ⟨by decide, by decide⟩ ⟨Nat.zero_le _, Nat.zero_le _⟩ (by simp [Value.category]) dX4_map_2 rfl rfl ?_
  refine z_astore (ls' := [some (.ref (n0 + 0)), some (.int 2), some (.int (nI j)), some (.int q), some (.ref (n0 + 71)), none]) C (by decide) rfl dX4_map_5 ?_
  refine z_aload C rfl dX4_map_7 ?_
  refine z_iload_n C rfl dX4_map_9 ?_
  refine z_callV (As := [.int (nI j)]) (r := (some (.ref (n0 + (71 + 2 + 2 * j))))) (σ1 := (κ, μ, o)) (st := []) (st1 := [.ref (n0 + (71 + 2 + 2 * j))]) C K ok_X4_226 (c_X2_slot l D n0 κ μ o 71 j (Or.inr (Or.inr rfl)) (by omega)) (enc_S (Or.inr (Or.inr rfl))) (isS_lt (Or.inr (Or.inr rfl))) rfl rfl ⟨by decide, by decide⟩ ⟨Nat.zero_le _, Nat.zero_le _⟩ (by simp [Value.category]) dX4_map_10 rfl rfl ?_
  refine z_astore (ls' := [some (.ref (n0 + 0)), some (.int 2), some (.int (nI j)), some (.int q), some (.ref (n0 + 71)), some (.ref (n0 + (71 + 2 + 2 * j)))]) C (by decide) rfl dX4_map_13 ?_
  refine z_aload C rfl dX4_map_15 ?_
  refine z_ifnull C dX4_map_17 ?_
  refine z_iload_n C rfl dX4_map_20 ?_
  refine z_if_lt (tgt := 30) C dX4_map_21 (by decide) (fun h_21 => ?_) (fun h_21 => ?_)
  · skip
    exact z_throwS (σ0 := (κ, μ, o)) C K hfl hxt (E := cIO) (by decide +kernel) (by decide +kernel) th4_cIO th5_cIO rfl (List.mem_of_getElem? (i := 17) rfl) th1_cIO th2_cIO th3_cIO dX4_map_30 dX4_map_33 dX4_map_34 dX4_map_36 dX4_map_39 ⟨by decide, by decide, by decide, by decide⟩
  · skip
    refine z_iload_n C rfl dX4_map_24 ?_
    refine z_bipush (v := 40) C (by decide +kernel) dX4_map_25 ?_
    refine z_icmp_lt (tgt := 40) C dX4_map_27 (by decide) (fun h_27 => ?_) (fun h_27 => ?_)
    · exact absurd hq (fun z => z.elim h_21 (Int32.not_le.mpr h_27))
    · skip
      exact z_throwS (σ0 := (κ, μ, o)) C K hfl hxt (E := cIO) (by decide +kernel) (by decide +kernel) th4_cIO th5_cIO rfl (List.mem_of_getElem? (i := 17) rfl) th1_cIO th2_cIO th3_cIO dX4_map_30 dX4_map_33 dX4_map_34 dX4_map_36 dX4_map_39 ⟨by decide, by decide, by decide, by decide⟩
set_option maxHeartbeats 4000000 in
set_option maxRecDepth 100000 in
theorem c_X4_map_2 (l : Launch) (D : DD) (n0 : Nat) (κ μ : KH) (o : Int64) (j q : Nat) (hj : j < 16) (hq : q < 40) : HM l D n0 yX4_map cX4_map 6 (some .int) 1 21 [.ref (n0 + 0), .int 2, .int (nI j), .int (nI q)] (κ, μ, o) (some (.int (κ ((71 + 2 + 2 * j) + 1) q))) (κ, μ, o) := by
  refine HM.of (by decide) (by simp [Value.category]) (by simp) (Or.inr (Or.inl ⟨_, .int, rfl, rfl, rfl⟩)) ?_
  intro pp ee ss mm aa bb me cd Q C K hret
  show ZZ pp l ee (rmk 1 21) ss mm aa bb me cd D n0 127 6 0 0 Q _ 0 [some (.ref (n0 + 0)), some (.int 2), some (.int (nI j)), some (.int (nI q)), none, none] []
  refine z_aload_n C rfl dX4_map_0 ?_
  refine z_iload_n C rfl dX4_map_1 ?_
  refine z_callV (As := [.int 2]) (r := (some (.ref (n0 + 71)))) (σ1 := (κ, μ, o)) (st := []) (st1 := [.ref (n0 + 71)]) C K ok_X4_180 (c_X4_stateOf_2 l D n0 κ μ o) enc_0 (by decide) rfl rfl ⟨by decide, by decide⟩ ⟨Nat.zero_le _, Nat.zero_le _⟩ (by simp [Value.category]) dX4_map_2 rfl rfl ?_
  refine z_astore (ls' := [some (.ref (n0 + 0)), some (.int 2), some (.int (nI j)), some (.int (nI q)), some (.ref (n0 + 71)), none]) C (by decide) rfl dX4_map_5 ?_
  refine z_aload C rfl dX4_map_7 ?_
  refine z_iload_n C rfl dX4_map_9 ?_
  refine z_callV (As := [.int (nI j)]) (r := (some (.ref (n0 + (71 + 2 + 2 * j))))) (σ1 := (κ, μ, o)) (st := []) (st1 := [.ref (n0 + (71 + 2 + 2 * j))]) C K ok_X4_226 (c_X2_slot l D n0 κ μ o 71 j (Or.inr (Or.inr rfl)) (by omega)) (enc_S (Or.inr (Or.inr rfl))) (isS_lt (Or.inr (Or.inr rfl))) rfl rfl ⟨by decide, by decide⟩ ⟨Nat.zero_le _, Nat.zero_le _⟩ (by simp [Value.category]) dX4_map_10 rfl rfl ?_
  refine z_astore (ls' := [some (.ref (n0 + 0)), some (.int 2), some (.int (nI j)), some (.int (nI q)), some (.ref (n0 + 71)), some (.ref (n0 + (71 + 2 + 2 * j)))]) C (by decide) rfl dX4_map_13 ?_
  refine z_aload C rfl dX4_map_15 ?_
  refine z_ifnull C dX4_map_17 ?_
  refine z_iload_n C rfl dX4_map_20 ?_
  refine z_if_lt (tgt := 30) C dX4_map_21 (by decide) (fun h_21 => ?_) (fun h_21 => ?_)
  · exact absurd h_21 (nI_pos (by omega))
  · skip
    refine z_iload_n C rfl dX4_map_24 ?_
    refine z_bipush (v := 40) C (by decide +kernel) dX4_map_25 ?_
    refine z_icmp_lt (tgt := 40) C dX4_map_27 (by decide) (fun h_27 => ?_) (fun h_27 => ?_)
    · have g_27 := cv_lt (a := q) (b := 40) (by omega) (by omega) h_27
      refine z_aload C rfl dX4_map_40 ?_
      refine z_iload_n C rfl dX4_map_42 ?_
      refine z_callV (As := [.int (nI q)]) (r := (some (.int (κ ((71 + 2 + 2 * j) + 1) q)))) (σ1 := (κ, μ, o)) (st := []) (st1 := [.int (κ ((71 + 2 + 2 * j) + 1) q)]) C K ok_X4_83 (c_X3_extentOf l D n0 κ μ o (71 + 2 + 2 * j) q (κ ((71 + 2 + 2 * j) + 1) q) (isV_of (Or.inr (Or.inr rfl)) hj) (by omega) rfl) (enc_V (isV_of (Or.inr (Or.inr rfl)) hj)) (isV_lt (isV_of (Or.inr (Or.inr rfl)) hj)) rfl rfl ⟨by decide, by decide⟩ ⟨Nat.zero_le _, Nat.zero_le _⟩ (by simp [Value.category]) dX4_map_43 rfl rfl ?_
      exact z_endI (hret _ _ dX4_map_46) rfl rfl
    · have g_27 := cv_nlt (a := q) (b := 40) (by omega) (by omega) h_27
      exact absurd g_27 (by omega)
set_option maxHeartbeats 4000000 in
set_option maxRecDepth 100000 in
theorem c_X4_volume_1 (l : Launch) (hfl : l.stackTraces = false) (D : DD) (n0 : Nat) (κ μ : KH) (o : Int64) (v t : Int32) (hb : ¬ okC κ v) : HT l D n0 yX4_volume cX4_volume 4 (some .int) 7 104 [.ref (n0 + 0), .int v, .int t] (κ, μ, o) cIO := by
  refine HT.of (by decide) (by simp [Value.category]) (by simp) ?_
  intro pp ee ss mm aa bb me cd C K hxt
  show ZZ pp l ee (rmx 7 104) ss mm aa bb me cd D n0 127 4 0 0 _ _ 0 [some (.ref (n0 + 0)), some (.int v), some (.int t), none] []
  refine z_aload_n C rfl dX4_volume_0 ?_
  refine z_iload_n C rfl dX4_volume_1 ?_
  refine z_callVT (As := [.int v]) (E := cIO) (st := []) C K ok_X4_71 (c_X4_existing_t l hfl D n0 κ μ o v hb) enc_0 (by decide) rfl rfl ⟨by decide, by decide⟩ ⟨by decide, by decide⟩ (by simp [Value.category]) dX4_volume_2 rfl ?_
  exact fun H locs lsA q9 ce hP hS _ h1 h2 h3 => z_out (σ0 := (κ, μ, o)) (a0 := aa) hxt C.2.2.2.2.2.2.2 hP hS h1 h2 h3
set_option maxHeartbeats 4000000 in
set_option maxRecDepth 100000 in
theorem c_X4_volume_2 (l : Launch) (hfl : l.stackTraces = false) (D : DD) (n0 : Nat) (κ μ : KH) (o : Int64) (j : Nat) (t : Int32) (hj : j < 16) (h0 : κ (cVk j) 0 ≠ 0) (ht : t < 0 ∨ 7 < t) : HT l D n0 yX4_volume cX4_volume 4 (some .int) 6 82 [.ref (n0 + 0), .int (nI j), .int t] (κ, μ, o) cIO := by
  refine HT.of (by decide) (by simp [Value.category]) (by simp) ?_
  intro pp ee ss mm aa bb me cd C K hxt
  show ZZ pp l ee (rmx 6 82) ss mm aa bb me cd D n0 127 4 0 0 _ _ 0 [some (.ref (n0 + 0)), some (.int (nI j)), some (.int t), none] []
  refine z_aload_n C rfl dX4_volume_0 ?_
  refine z_iload_n C rfl dX4_volume_1 ?_
  refine z_callV (As := [.int (nI j)]) (r := (some (.ref (n0 + (cVk j))))) (σ1 := (κ, μ, o)) (st := []) (st1 := [.ref (n0 + (cVk j))]) C K ok_X4_71 (c_X4_existing l D n0 κ μ o j (by omega) h0) enc_0 (by decide) rfl rfl ⟨by decide, by decide⟩ ⟨Nat.zero_le _, Nat.zero_le _⟩ (by simp [Value.category]) dX4_volume_2 rfl rfl ?_
  refine z_astore_n (ls' := [some (.ref (n0 + 0)), some (.int (nI j)), some (.int t), some (.ref (n0 + (cVk j)))]) C (by decide) rfl dX4_volume_5 ?_
  refine z_iload_n C rfl dX4_volume_6 ?_
  refine z_tableOut (tgt := 105) C dX4_volume_7 (sw_out 0 7 ht) (by decide) ?_
  exact z_throwS (σ0 := (κ, μ, o)) C K hfl hxt (E := cIO) (by decide +kernel) (by decide +kernel) th4_cIO th5_cIO rfl (List.mem_of_getElem? (i := 18) rfl) th1_cIO th2_cIO th3_cIO dX4_volume_105 dX4_volume_108 dX4_volume_109 dX4_volume_111 dX4_volume_114 ⟨by decide, by decide, by decide, by decide⟩
set_option maxHeartbeats 4000000 in
set_option maxRecDepth 100000 in
theorem c_X4_volume_w0 (l : Launch) (D : DD) (n0 : Nat) (κ μ : KH) (o : Int64) (j : Nat) (hj : j < 16) (h0 : κ (cVk j) 0 ≠ 0) : HM l D n0 yX4_volume cX4_volume 4 (some .int) 3 65 [.ref (n0 + 0), .int (nI j), .int 0] (κ, μ, o) (some (.int (κ (cVk j) 2))) (κ, μ, o) := by
  refine HM.of (by decide) (by simp [Value.category]) (by simp) (Or.inr (Or.inl ⟨_, .int, rfl, rfl, rfl⟩)) ?_
  intro pp ee ss mm aa bb me cd Q C K hret
  show ZZ pp l ee (rmk 3 65) ss mm aa bb me cd D n0 127 4 0 0 Q _ 0 [some (.ref (n0 + 0)), some (.int (nI j)), some (.int 0), none] []
  refine z_aload_n C rfl dX4_volume_0 ?_
  refine z_iload_n C rfl dX4_volume_1 ?_
  refine z_callV (As := [.int (nI j)]) (r := (some (.ref (n0 + (cVk j))))) (σ1 := (κ, μ, o)) (st := []) (st1 := [.ref (n0 + (cVk j))]) C K ok_X4_71 (c_X4_existing l D n0 κ μ o j (by omega) h0) enc_0 (by decide) rfl rfl ⟨by decide, by decide⟩ ⟨Nat.zero_le _, Nat.zero_le _⟩ (by simp [Value.category]) dX4_volume_2 rfl rfl ?_
  refine z_astore_n (ls' := [some (.ref (n0 + 0)), some (.int (nI j)), some (.int 0), some (.ref (n0 + (cVk j)))]) C (by decide) rfl dX4_volume_5 ?_
  refine z_iload_n C rfl dX4_volume_6 ?_
  refine z_tableIn (tgt := 52) C dX4_volume_7 (by decide +kernel) (by decide +kernel) (off := 45) (by decide +kernel) (by decide) ?_
  refine z_aload_n C rfl dX4_volume_52 ?_
  refine gf_X4_74 (v := κ (cVk j) 2) C (isVk hj) rfl dX4_volume_53 ?_
  exact z_endI (hret _ _ dX4_volume_56) rfl rfl
set_option maxHeartbeats 4000000 in
set_option maxRecDepth 100000 in
theorem c_X4_volume_w1 (l : Launch) (D : DD) (n0 : Nat) (κ μ : KH) (o : Int64) (j : Nat) (hj : j < 16) (h0 : κ (cVk j) 0 ≠ 0) : HM l D n0 yX4_volume cX4_volume 4 (some .int) 3 65 [.ref (n0 + 0), .int (nI j), .int 1] (κ, μ, o) (some (.int (κ (cVk j) 5))) (κ, μ, o) := by
  refine HM.of (by decide) (by simp [Value.category]) (by simp) (Or.inr (Or.inl ⟨_, .int, rfl, rfl, rfl⟩)) ?_
  intro pp ee ss mm aa bb me cd Q C K hret
  show ZZ pp l ee (rmk 3 65) ss mm aa bb me cd D n0 127 4 0 0 Q _ 0 [some (.ref (n0 + 0)), some (.int (nI j)), some (.int 1), none] []
  refine z_aload_n C rfl dX4_volume_0 ?_
  refine z_iload_n C rfl dX4_volume_1 ?_
  refine z_callV (As := [.int (nI j)]) (r := (some (.ref (n0 + (cVk j))))) (σ1 := (κ, μ, o)) (st := []) (st1 := [.ref (n0 + (cVk j))]) C K ok_X4_71 (c_X4_existing l D n0 κ μ o j (by omega) h0) enc_0 (by decide) rfl rfl ⟨by decide, by decide⟩ ⟨Nat.zero_le _, Nat.zero_le _⟩ (by simp [Value.category]) dX4_volume_2 rfl rfl ?_
  refine z_astore_n (ls' := [some (.ref (n0 + 0)), some (.int (nI j)), some (.int 1), some (.ref (n0 + (cVk j)))]) C (by decide) rfl dX4_volume_5 ?_
  refine z_iload_n C rfl dX4_volume_6 ?_
  refine z_tableIn (tgt := 57) C dX4_volume_7 (by decide +kernel) (by decide +kernel) (off := 50) (by decide +kernel) (by decide) ?_
  refine z_aload_n C rfl dX4_volume_57 ?_
  refine gf_X4_91 (v := κ (cVk j) 5) C (isVk hj) rfl dX4_volume_58 ?_
  exact z_endI (hret _ _ dX4_volume_61) rfl rfl
set_option maxHeartbeats 4000000 in
set_option maxRecDepth 100000 in
theorem c_X4_volume_w2 (l : Launch) (D : DD) (n0 : Nat) (κ μ : KH) (o : Int64) (j : Nat) (hj : j < 16) (h0 : κ (cVk j) 0 ≠ 0) : HM l D n0 yX4_volume cX4_volume 4 (some .int) 3 65 [.ref (n0 + 0), .int (nI j), .int 2] (κ, μ, o) (some (.int (cLast κ (cVk j) 40))) (κ, μ, o) := by
  refine HM.of (by decide) (by simp [Value.category]) (by simp) (Or.inr (Or.inl ⟨_, .int, rfl, rfl, rfl⟩)) ?_
  intro pp ee ss mm aa bb me cd Q C K hret
  show ZZ pp l ee (rmk 3 65) ss mm aa bb me cd D n0 127 4 0 0 Q _ 0 [some (.ref (n0 + 0)), some (.int (nI j)), some (.int 2), none] []
  refine z_aload_n C rfl dX4_volume_0 ?_
  refine z_iload_n C rfl dX4_volume_1 ?_
  refine z_callV (As := [.int (nI j)]) (r := (some (.ref (n0 + (cVk j))))) (σ1 := (κ, μ, o)) (st := []) (st1 := [.ref (n0 + (cVk j))]) C K ok_X4_71 (c_X4_existing l D n0 κ μ o j (by omega) h0) enc_0 (by decide) rfl rfl ⟨by decide, by decide⟩ ⟨Nat.zero_le _, Nat.zero_le _⟩ (by simp [Value.category]) dX4_volume_2 rfl rfl ?_
  refine z_astore_n (ls' := [some (.ref (n0 + 0)), some (.int (nI j)), some (.int 2), some (.ref (n0 + (cVk j)))]) C (by decide) rfl dX4_volume_5 ?_
  refine z_iload_n C rfl dX4_volume_6 ?_
  refine z_tableIn (tgt := 62) C dX4_volume_7 (by decide +kernel) (by decide +kernel) (off := 55) (by decide +kernel) (by decide) ?_
  refine z_aload_n C rfl dX4_volume_62 ?_
  refine z_callV (As := []) (r := (some (.int (cLast κ (cVk j) 40)))) (σ1 := (κ, μ, o)) (st := []) (st1 := [.int (cLast κ (cVk j) 40)]) C K ok_X4_231 (c_X3_lastMapped l D n0 κ μ o (cVk j) (isVk hj)) (enc_V (isVk hj)) (isV_lt (isVk hj)) rfl rfl ⟨by decide, by decide⟩ ⟨Nat.zero_le _, Nat.zero_le _⟩ (by simp [Value.category]) dX4_volume_63 rfl rfl ?_
  exact z_endI (hret _ _ dX4_volume_66) rfl rfl
set_option maxHeartbeats 4000000 in
set_option maxRecDepth 100000 in
theorem c_X4_volume_w3 (l : Launch) (D : DD) (n0 : Nat) (κ μ : KH) (o : Int64) (j : Nat) (hj : j < 16) (h0 : κ (cVk j) 0 ≠ 0) (hX : ∀ q, isX (κ (cVk j + 1) q)) : HM l D n0 yX4_volume cX4_volume 4 (some .int) 3 66 [.ref (n0 + 0), .int (nI j), .int 3] (κ, μ, o) (some (.int (nI (sumTo (cNs1 κ (cVk j)) 40)))) (κ, μ, o) := by
  refine HM.of (by decide) (by simp [Value.category]) (by simp) (Or.inr (Or.inl ⟨_, .int, rfl, rfl, rfl⟩)) ?_
  intro pp ee ss mm aa bb me cd Q C K hret
  show ZZ pp l ee (rmk 3 66) ss mm aa bb me cd D n0 127 4 0 0 Q _ 0 [some (.ref (n0 + 0)), some (.int (nI j)), some (.int 3), none] []
  refine z_aload_n C rfl dX4_volume_0 ?_
  refine z_iload_n C rfl dX4_volume_1 ?_
  refine z_callV (As := [.int (nI j)]) (r := (some (.ref (n0 + (cVk j))))) (σ1 := (κ, μ, o)) (st := []) (st1 := [.ref (n0 + (cVk j))]) C K ok_X4_71 (c_X4_existing l D n0 κ μ o j (by omega) h0) enc_0 (by decide) rfl rfl ⟨by decide, by decide⟩ ⟨Nat.zero_le _, Nat.zero_le _⟩ (by simp [Value.category]) dX4_volume_2 rfl rfl ?_
  refine z_astore_n (ls' := [some (.ref (n0 + 0)), some (.int (nI j)), some (.int 3), some (.ref (n0 + (cVk j)))]) C (by decide) rfl dX4_volume_5 ?_
  refine z_iload_n C rfl dX4_volume_6 ?_
  refine z_tableIn (tgt := 67) C dX4_volume_7 (by decide +kernel) (by decide +kernel) (off := 60) (by decide +kernel) (by decide) ?_
  refine z_aload_n C rfl dX4_volume_67 ?_
  refine z_aload_n C rfl dX4_volume_68 ?_
  refine z_callV (As := [.ref (n0 + (cVk j))]) (r := (some (.int (nI (sumTo (cNs1 κ (cVk j)) 40))))) (σ1 := (κ, μ, o)) (st := []) (st1 := [.int (nI (sumTo (cNs1 κ (cVk j)) 40))]) C K ok_X4_234 (c_X4_countShared l D n0 κ μ o (cVk j) (isVk hj) hX) enc_0 (by decide) rfl rfl ⟨by decide, by decide⟩ ⟨Nat.zero_le _, Nat.zero_le _⟩ (by simp [Value.category]) dX4_volume_69 rfl rfl ?_
  exact z_endI (hret _ _ dX4_volume_72) rfl rfl
set_option maxHeartbeats 4000000 in
set_option maxRecDepth 100000 in
theorem c_X4_volume_w4 (l : Launch) (D : DD) (n0 : Nat) (κ μ : KH) (o : Int64) (j : Nat) (hj : j < 16) (h0 : κ (cVk j) 0 ≠ 0) : HM l D n0 yX4_volume cX4_volume 4 (some .int) 3 65 [.ref (n0 + 0), .int (nI j), .int 4] (κ, μ, o) (some (.int (κ (cVk j) 4))) (κ, μ, o) := by
  refine HM.of (by decide) (by simp [Value.category]) (by simp) (Or.inr (Or.inl ⟨_, .int, rfl, rfl, rfl⟩)) ?_
  intro pp ee ss mm aa bb me cd Q C K hret
  show ZZ pp l ee (rmk 3 65) ss mm aa bb me cd D n0 127 4 0 0 Q _ 0 [some (.ref (n0 + 0)), some (.int (nI j)), some (.int 4), none] []
  refine z_aload_n C rfl dX4_volume_0 ?_
  refine z_iload_n C rfl dX4_volume_1 ?_
  refine z_callV (As := [.int (nI j)]) (r := (some (.ref (n0 + (cVk j))))) (σ1 := (κ, μ, o)) (st := []) (st1 := [.ref (n0 + (cVk j))]) C K ok_X4_71 (c_X4_existing l D n0 κ μ o j (by omega) h0) enc_0 (by decide) rfl rfl ⟨by decide, by decide⟩ ⟨Nat.zero_le _, Nat.zero_le _⟩ (by simp [Value.category]) dX4_volume_2 rfl rfl ?_
  refine z_astore_n (ls' := [some (.ref (n0 + 0)), some (.int (nI j)), some (.int 4), some (.ref (n0 + (cVk j)))]) C (by decide) rfl dX4_volume_5 ?_
  refine z_iload_n C rfl dX4_volume_6 ?_
  refine z_tableIn (tgt := 73) C dX4_volume_7 (by decide +kernel) (by decide +kernel) (off := 66) (by decide +kernel) (by decide) ?_
  refine z_aload_n C rfl dX4_volume_73 ?_
  refine gf_X4_238 (v := κ (cVk j) 4) C (isVk hj) rfl dX4_volume_74 ?_
  exact z_endI (hret _ _ dX4_volume_77) rfl rfl
set_option maxHeartbeats 4000000 in
set_option maxRecDepth 100000 in
theorem c_X4_volume_w5 (l : Launch) (D : DD) (n0 : Nat) (κ μ : KH) (o : Int64) (j : Nat) (hj : j < 16) (h0 : κ (cVk j) 0 ≠ 0) (n : Nat) (hn : κ 108 0 = nI n) (hn8 : n ≤ 8) : HM l D n0 yX4_volume cX4_volume 4 (some .int) 3 65 [.ref (n0 + 0), .int (nI j), .int 5] (κ, μ, o) (some (.int (nI (sumTo (cQ1 κ (nI j)) n)))) (κ, μ, o) := by
  refine HM.of (by decide) (by simp [Value.category]) (by simp) (Or.inr (Or.inl ⟨_, .int, rfl, rfl, rfl⟩)) ?_
  intro pp ee ss mm aa bb me cd Q C K hret
  show ZZ pp l ee (rmk 3 65) ss mm aa bb me cd D n0 127 4 0 0 Q _ 0 [some (.ref (n0 + 0)), some (.int (nI j)), some (.int 5), none] []
  refine z_aload_n C rfl dX4_volume_0 ?_
  refine z_iload_n C rfl dX4_volume_1 ?_
  refine z_callV (As := [.int (nI j)]) (r := (some (.ref (n0 + (cVk j))))) (σ1 := (κ, μ, o)) (st := []) (st1 := [.ref (n0 + (cVk j))]) C K ok_X4_71 (c_X4_existing l D n0 κ μ o j (by omega) h0) enc_0 (by decide) rfl rfl ⟨by decide, by decide⟩ ⟨Nat.zero_le _, Nat.zero_le _⟩ (by simp [Value.category]) dX4_volume_2 rfl rfl ?_
  refine z_astore_n (ls' := [some (.ref (n0 + 0)), some (.int (nI j)), some (.int 5), some (.ref (n0 + (cVk j)))]) C (by decide) rfl dX4_volume_5 ?_
  refine z_iload_n C rfl dX4_volume_6 ?_
  refine z_tableIn (tgt := 78) C dX4_volume_7 (by decide +kernel) (by decide +kernel) (off := 71) (by decide +kernel) (by decide) ?_
  refine z_aload_n C rfl dX4_volume_78 ?_
  refine gf_X4_34 C dX4_volume_79 ?_
  refine z_iload_n C rfl dX4_volume_82 ?_
  refine z_callV (As := [.int (nI j)]) (r := (some (.int (nI (sumTo (cQ1 κ (nI j)) n))))) (σ1 := (κ, μ, o)) (st := []) (st1 := [.int (nI (sumTo (cQ1 κ (nI j)) n))]) C K ok_X4_241 (c_X1_countOf l D n0 κ μ o n (nI j) hn hn8) enc_Q (by decide) rfl rfl ⟨by decide, by decide⟩ ⟨Nat.zero_le _, Nat.zero_le _⟩ (by simp [Value.category]) dX4_volume_83 rfl rfl ?_
  exact z_endI (hret _ _ dX4_volume_86) rfl rfl
set_option maxHeartbeats 4000000 in
set_option maxRecDepth 100000 in
theorem c_X4_volume_w6 (l : Launch) (D : DD) (n0 : Nat) (κ μ : KH) (o : Int64) (j : Nat) (hj : j < 16) (h0 : κ (cVk j) 0 ≠ 0) : HM l D n0 yX4_volume cX4_volume 4 (some .int) 3 65 [.ref (n0 + 0), .int (nI j), .int 6] (κ, μ, o) (some (.int (if κ (cVk j) 1 = 0 then 0 else 1))) (κ, μ, o) := by
  refine HM.of (by decide) (by simp [Value.category]) (by simp) (Or.inr (Or.inl ⟨_, .int, rfl, rfl, rfl⟩)) ?_
  intro pp ee ss mm aa bb me cd Q C K hret
  show ZZ pp l ee (rmk 3 65) ss mm aa bb me cd D n0 127 4 0 0 Q _ 0 [some (.ref (n0 + 0)), some (.int (nI j)), some (.int 6), none] []
  refine z_aload_n C rfl dX4_volume_0 ?_
  refine z_iload_n C rfl dX4_volume_1 ?_
  refine z_callV (As := [.int (nI j)]) (r := (some (.ref (n0 + (cVk j))))) (σ1 := (κ, μ, o)) (st := []) (st1 := [.ref (n0 + (cVk j))]) C K ok_X4_71 (c_X4_existing l D n0 κ μ o j (by omega) h0) enc_0 (by decide) rfl rfl ⟨by decide, by decide⟩ ⟨Nat.zero_le _, Nat.zero_le _⟩ (by simp [Value.category]) dX4_volume_2 rfl rfl ?_
  refine z_astore_n (ls' := [some (.ref (n0 + 0)), some (.int (nI j)), some (.int 6), some (.ref (n0 + (cVk j)))]) C (by decide) rfl dX4_volume_5 ?_
  refine z_iload_n C rfl dX4_volume_6 ?_
  refine z_tableIn (tgt := 87) C dX4_volume_7 (by decide +kernel) (by decide +kernel) (off := 80) (by decide +kernel) (by decide) ?_
  refine z_aload_n C rfl dX4_volume_87 ?_
  refine gf_X4_77 (v := κ (cVk j) 1) C (isVk hj) rfl dX4_volume_88 ?_
  refine z_if_eq (tgt := 98) C dX4_volume_91 (by decide) (fun h_91 => ?_) (fun h_91 => ?_)
  · skip
    refine z_iconst (v := 0) C (by decide +kernel) dX4_volume_98 ?_
    exact z_endI (hret _ _ dX4_volume_99) (by rw [if_pos h_91]) rfl
  · skip
    refine z_iconst (v := 1) C (by decide +kernel) dX4_volume_94 ?_
    refine z_goto (tgt := 99) C dX4_volume_95 (by decide) ?_
    exact z_endI (hret _ _ dX4_volume_99) (by rw [if_neg h_91]) rfl
set_option maxHeartbeats 4000000 in
set_option maxRecDepth 100000 in
theorem c_X4_volume_w7 (l : Launch) (D : DD) (n0 : Nat) (κ μ : KH) (o : Int64) (j : Nat) (hj : j < 16) (h0 : κ (cVk j) 0 ≠ 0) : HM l D n0 yX4_volume cX4_volume 4 (some .int) 3 65 [.ref (n0 + 0), .int (nI j), .int 7] (κ, μ, o) (some (.int (κ (cVk j) 3))) (κ, μ, o) := by
  refine HM.of (by decide) (by simp [Value.category]) (by simp) (Or.inr (Or.inl ⟨_, .int, rfl, rfl, rfl⟩)) ?_
  intro pp ee ss mm aa bb me cd Q C K hret
  show ZZ pp l ee (rmk 3 65) ss mm aa bb me cd D n0 127 4 0 0 Q _ 0 [some (.ref (n0 + 0)), some (.int (nI j)), some (.int 7), none] []
  refine z_aload_n C rfl dX4_volume_0 ?_
  refine z_iload_n C rfl dX4_volume_1 ?_
  refine z_callV (As := [.int (nI j)]) (r := (some (.ref (n0 + (cVk j))))) (σ1 := (κ, μ, o)) (st := []) (st1 := [.ref (n0 + (cVk j))]) C K ok_X4_71 (c_X4_existing l D n0 κ μ o j (by omega) h0) enc_0 (by decide) rfl rfl ⟨by decide, by decide⟩ ⟨Nat.zero_le _, Nat.zero_le _⟩ (by simp [Value.category]) dX4_volume_2 rfl rfl ?_
  refine z_astore_n (ls' := [some (.ref (n0 + 0)), some (.int (nI j)), some (.int 7), some (.ref (n0 + (cVk j)))]) C (by decide) rfl dX4_volume_5 ?_
  refine z_iload_n C rfl dX4_volume_6 ?_
  refine z_tableIn (tgt := 100) C dX4_volume_7 (by decide +kernel) (by decide +kernel) (off := 93) (by decide +kernel) (by decide) ?_
  refine z_aload_n C rfl dX4_volume_100 ?_
  refine gf_X4_80 (v := κ (cVk j) 3) C (isVk hj) rfl dX4_volume_101 ?_
  exact z_endI (hret _ _ dX4_volume_104) rfl rfl
set_option maxHeartbeats 4000000 in
set_option maxRecDepth 100000 in
theorem c_X4_differ_1 (l : Launch) (hfl : l.stackTraces = false) (D : DD) (n0 : Nat) (κ μ : KH) (o : Int64) (v u t : Int32) (hb : ¬ okC κ v) : HT l D n0 yX4_differ cX4_differ 6 (some .int) 7 104 [.ref (n0 + 0), .int v, .int u, .int t] (κ, μ, o) cIO := by
  refine HT.of (by decide) (by simp [Value.category]) (by simp) ?_
  intro pp ee ss mm aa bb me cd C K hxt
  show ZZ pp l ee (rmx 7 104) ss mm aa bb me cd D n0 127 6 0 0 _ _ 0 [some (.ref (n0 + 0)), some (.int v), some (.int u), some (.int t), none, none] []
  refine z_aload_n C rfl dX4_differ_0 ?_
  refine z_iload_n C rfl dX4_differ_1 ?_
  refine z_callVT (As := [.int v]) (E := cIO) (st := []) C K ok_X4_71 (c_X4_existing_t l hfl D n0 κ μ o v hb) enc_0 (by decide) rfl rfl ⟨by decide, by decide⟩ ⟨by decide, by decide⟩ (by simp [Value.category]) dX4_differ_2 rfl ?_
  exact fun H locs lsA q9 ce hP hS _ h1 h2 h3 => z_out (σ0 := (κ, μ, o)) (a0 := aa) hxt C.2.2.2.2.2.2.2 hP hS h1 h2 h3
set_option maxHeartbeats 4000000 in
set_option maxRecDepth 100000 in
theorem c_X4_differ_2 (l : Launch) (hfl : l.stackTraces = false) (D : DD) (n0 : Nat) (κ μ : KH) (o : Int64) (j : Nat) (u t : Int32) (hj : j < 16) (h0 : κ (cVk j) 0 ≠ 0) (hb : ¬ okC κ u) : HT l D n0 yX4_differ cX4_differ 6 (some .int) 7 104 [.ref (n0 + 0), .int (nI j), .int u, .int t] (κ, μ, o) cIO := by
  refine HT.of (by decide) (by simp [Value.category]) (by simp) ?_
  intro pp ee ss mm aa bb me cd C K hxt
  show ZZ pp l ee (rmx 7 104) ss mm aa bb me cd D n0 127 6 0 0 _ _ 0 [some (.ref (n0 + 0)), some (.int (nI j)), some (.int u), some (.int t), none, none] []
  refine z_aload_n C rfl dX4_differ_0 ?_
  refine z_iload_n C rfl dX4_differ_1 ?_
  refine z_callV (As := [.int (nI j)]) (r := (some (.ref (n0 + (cVk j))))) (σ1 := (κ, μ, o)) (st := []) (st1 := [.ref (n0 + (cVk j))]) C K ok_X4_71 (c_X4_existing l D n0 κ μ o j (by omega) h0) enc_0 (by decide) rfl rfl ⟨by decide, by decide⟩ ⟨Nat.zero_le _, Nat.zero_le _⟩ (by simp [Value.category]) dX4_differ_2 rfl rfl ?_
  refine z_astore (ls' := [some (.ref (n0 + 0)), some (.int (nI j)), some (.int u), some (.int t), some (.ref (n0 + (cVk j))), none]) C (by decide) rfl dX4_differ_5 ?_
  refine z_aload_n C rfl dX4_differ_7 ?_
  refine z_iload_n C rfl dX4_differ_8 ?_
  refine z_callVT (As := [.int u]) (E := cIO) (st := []) C K ok_X4_71 (c_X4_existing_t l hfl D n0 κ μ o u hb) enc_0 (by decide) rfl rfl ⟨by decide, by decide⟩ ⟨by decide, by decide⟩ (by simp [Value.category]) dX4_differ_9 rfl ?_
  exact fun H locs lsA q9 ce hP hS _ h1 h2 h3 => z_out (σ0 := (κ, μ, o)) (a0 := aa) hxt C.2.2.2.2.2.2.2 hP hS h1 h2 h3
set_option maxHeartbeats 4000000 in
set_option maxRecDepth 100000 in
theorem c_X4_differ_3 (l : Launch) (hfl : l.stackTraces = false) (D : DD) (n0 : Nat) (κ μ : KH) (o : Int64) (i j : Nat) (t : Int32) (hi : i < 16) (hj : j < 16) (h1 : κ (cVk i) 0 ≠ 0) (h0 : κ (cVk j) 0 ≠ 0) (ht : t < 0 ∨ 4 < t) : HT l D n0 yX4_differ cX4_differ 6 (some .int) 6 82 [.ref (n0 + 0), .int (nI i), .int (nI j), .int t] (κ, μ, o) cIO := by
  refine HT.of (by decide) (by simp [Value.category]) (by simp) ?_
  intro pp ee ss mm aa bb me cd C K hxt
  show ZZ pp l ee (rmx 6 82) ss mm aa bb me cd D n0 127 6 0 0 _ _ 0 [some (.ref (n0 + 0)), some (.int (nI i)), some (.int (nI j)), some (.int t), none, none] []
  refine z_aload_n C rfl dX4_differ_0 ?_
  refine z_iload_n C rfl dX4_differ_1 ?_
  refine z_callV (As := [.int (nI i)]) (r := (some (.ref (n0 + (cVk i))))) (σ1 := (κ, μ, o)) (st := []) (st1 := [.ref (n0 + (cVk i))]) C K ok_X4_71 (c_X4_existing l D n0 κ μ o i (by omega) h1) enc_0 (by decide) rfl rfl ⟨by decide, by decide⟩ ⟨Nat.zero_le _, Nat.zero_le _⟩ (by simp [Value.category]) dX4_differ_2 rfl rfl ?_
  refine z_astore (ls' := [some (.ref (n0 + 0)), some (.int (nI i)), some (.int (nI j)), some (.int t), some (.ref (n0 + (cVk i))), none]) C (by decide) rfl dX4_differ_5 ?_
  refine z_aload_n C rfl dX4_differ_7 ?_
  refine z_iload_n C rfl dX4_differ_8 ?_
  refine z_callV (As := [.int (nI j)]) (r := (some (.ref (n0 + (cVk j))))) (σ1 := (κ, μ, o)) (st := []) (st1 := [.ref (n0 + (cVk j))]) C K ok_X4_71 (c_X4_existing l D n0 κ μ o j (by omega) h0) enc_0 (by decide) rfl rfl ⟨by decide, by decide⟩ ⟨Nat.zero_le _, Nat.zero_le _⟩ (by simp [Value.category]) dX4_differ_9 rfl rfl ?_
  refine z_astore (ls' := [some (.ref (n0 + 0)), some (.int (nI i)), some (.int (nI j)), some (.int t), some (.ref (n0 + (cVk i))), some (.ref (n0 + (cVk j)))]) C (by decide) rfl dX4_differ_12 ?_
  refine z_iload_n C rfl dX4_differ_14 ?_
  refine z_if_lt (tgt := 23) C dX4_differ_15 (by decide) (fun h_15 => ?_) (fun h_15 => ?_)
  · skip
    exact z_throwS (σ0 := (κ, μ, o)) C K hfl hxt (E := cIO) (by decide +kernel) (by decide +kernel) th4_cIO th5_cIO rfl (List.mem_of_getElem? (i := 18) rfl) th1_cIO th2_cIO th3_cIO dX4_differ_23 dX4_differ_26 dX4_differ_27 dX4_differ_29 dX4_differ_32 ⟨by decide, by decide, by decide, by decide⟩
  · skip
    refine z_iload_n C rfl dX4_differ_18 ?_
    refine z_iconst (v := 4) C (by decide +kernel) dX4_differ_19 ?_
    refine z_icmp_le (tgt := 33) C dX4_differ_20 (by decide) (fun h_20 => ?_) (fun h_20 => ?_)
    · exact absurd ht (fun q => q.elim h_15 (Int32.not_lt.mpr h_20))
    · skip
      exact z_throwS (σ0 := (κ, μ, o)) C K hfl hxt (E := cIO) (by decide +kernel) (by decide +kernel) th4_cIO th5_cIO rfl (List.mem_of_getElem? (i := 18) rfl) th1_cIO th2_cIO th3_cIO dX4_differ_23 dX4_differ_26 dX4_differ_27 dX4_differ_29 dX4_differ_32 ⟨by decide, by decide, by decide, by decide⟩
set_option maxHeartbeats 4000000 in
set_option maxRecDepth 100000 in
theorem c_X4_differ_4 (l : Launch) (D : DD) (n0 : Nat) (κ μ : KH) (o : Int64) (i j : Nat) (hi : i < 16) (hj : j < 16) (h1 : κ (cVk i) 0 ≠ 0) (h0 : κ (cVk j) 0 ≠ 0) : HM l D n0 yX4_differ cX4_differ 6 (some .int) 3 72 [.ref (n0 + 0), .int (nI i), .int (nI j), .int 4] (κ, μ, o) (some (.int (nI (sumTo (cRn1 κ (cVk i) (cVk j)) 40)))) (κ, μ, o) := by
  refine HM.of (by decide) (by simp [Value.category]) (by simp) (Or.inr (Or.inl ⟨_, .int, rfl, rfl, rfl⟩)) ?_
  intro pp ee ss mm aa bb me cd Q C K hret
  show ZZ pp l ee (rmk 3 72) ss mm aa bb me cd D n0 127 6 0 0 Q _ 0 [some (.ref (n0 + 0)), some (.int (nI i)), some (.int (nI j)), some (.int 4), none, none] []
  refine z_aload_n C rfl dX4_differ_0 ?_
  refine z_iload_n C rfl dX4_differ_1 ?_
  refine z_callV (As := [.int (nI i)]) (r := (some (.ref (n0 + (cVk i))))) (σ1 := (κ, μ, o)) (st := []) (st1 := [.ref (n0 + (cVk i))]) C K ok_X4_71 (c_X4_existing l D n0 κ μ o i (by omega) h1) enc_0 (by decide) rfl rfl ⟨by decide, by decide⟩ ⟨Nat.zero_le _, Nat.zero_le _⟩ (by simp [Value.category]) dX4_differ_2 rfl rfl ?_
  refine z_astore (ls' := [some (.ref (n0 + 0)), some (.int (nI i)), some (.int (nI j)), some (.int 4), some (.ref (n0 + (cVk i))), none]) C (by decide) rfl dX4_differ_5 ?_
  refine z_aload_n C rfl dX4_differ_7 ?_
  refine z_iload_n C rfl dX4_differ_8 ?_
  refine z_callV (As := [.int (nI j)]) (r := (some (.ref (n0 + (cVk j))))) (σ1 := (κ, μ, o)) (st := []) (st1 := [.ref (n0 + (cVk j))]) C K ok_X4_71 (c_X4_existing l D n0 κ μ o j (by omega) h0) enc_0 (by decide) rfl rfl ⟨by decide, by decide⟩ ⟨Nat.zero_le _, Nat.zero_le _⟩ (by simp [Value.category]) dX4_differ_9 rfl rfl ?_
  refine z_astore (ls' := [some (.ref (n0 + 0)), some (.int (nI i)), some (.int (nI j)), some (.int 4), some (.ref (n0 + (cVk i))), some (.ref (n0 + (cVk j)))]) C (by decide) rfl dX4_differ_12 ?_
  refine z_iload_n C rfl dX4_differ_14 ?_
  refine z_if_lt (tgt := 23) C dX4_differ_15 (by decide) (fun h_15 => ?_) (fun h_15 => ?_)
  · exact absurd h_15 (by decide +kernel)
  · skip
    refine z_iload_n C rfl dX4_differ_18 ?_
    refine z_iconst (v := 4) C (by decide +kernel) dX4_differ_19 ?_
    refine z_icmp_le (tgt := 33) C dX4_differ_20 (by decide) (fun h_20 => ?_) (fun h_20 => ?_)
    · skip
      refine z_iload_n C rfl dX4_differ_33 ?_
      refine z_iconst (v := 4) C (by decide +kernel) dX4_differ_34 ?_
      refine z_icmp_ne (tgt := 49) C dX4_differ_35 (by decide) (fun h_35 => ?_) (fun h_35 => ?_)
      · exact absurd h_35 (by decide +kernel)
      · skip
        refine z_aload_n C rfl dX4_differ_38 ?_
        refine z_aload C rfl dX4_differ_39 ?_
        refine z_aload C rfl dX4_differ_41 ?_
        refine z_callV (As := [.ref (n0 + (cVk i)), .ref (n0 + (cVk j))]) (r := (some (.int (nI (sumTo (cRn1 κ (cVk i) (cVk j)) 40))))) (σ1 := (κ, μ, o)) (st := []) (st1 := [.int (nI (sumTo (cRn1 κ (cVk i) (cVk j)) 40))]) C K ok_X4_246 (c_X4_countRuns l D n0 κ μ o (cVk i) (cVk j) (isVk hi) (isVk hj)) enc_0 (by decide) rfl rfl ⟨by decide, by decide⟩ ⟨Nat.zero_le _, Nat.zero_le _⟩ (by simp [Value.category]) dX4_differ_43 rfl rfl ?_
        refine z_goto (tgt := 58) C dX4_differ_46 (by decide) ?_
        exact z_endI (hret _ _ dX4_differ_58) rfl rfl
    · exact absurd h_20 (by decide +kernel)
set_option maxHeartbeats 4000000 in
set_option maxRecDepth 100000 in
theorem c_X4_differ (l : Launch) (D : DD) (n0 : Nat) (κ μ : KH) (o : Int64) (i j : Nat) (t : Int32) (hi : i < 16) (hj : j < 16) (h1 : κ (cVk i) 0 ≠ 0) (h0 : κ (cVk j) 0 ≠ 0) (ht0 : ¬ t < 0) (ht4 : t ≤ 4) (hne : ¬ t = 4) : HM l D n0 yX4_differ cX4_differ 6 (some .int) 3 71 [.ref (n0 + 0), .int (nI i), .int (nI j), .int t] (κ, μ, o) (some (.int (nI (sumTo (cDf1 κ (cVk i) (cVk j) t) 40)))) (κ, μ, o) := by
  refine HM.of (by decide) (by simp [Value.category]) (by simp) (Or.inr (Or.inl ⟨_, .int, rfl, rfl, rfl⟩)) ?_
  intro pp ee ss mm aa bb me cd Q C K hret
  show ZZ pp l ee (rmk 3 71) ss mm aa bb me cd D n0 127 6 0 0 Q _ 0 [some (.ref (n0 + 0)), some (.int (nI i)), some (.int (nI j)), some (.int t), none, none] []
  refine z_aload_n C rfl dX4_differ_0 ?_
  refine z_iload_n C rfl dX4_differ_1 ?_
  refine z_callV (As := [.int (nI i)]) (r := (some (.ref (n0 + (cVk i))))) (σ1 := (κ, μ, o)) (st := []) (st1 := [.ref (n0 + (cVk i))]) C K ok_X4_71 (c_X4_existing l D n0 κ μ o i (by omega) h1) enc_0 (by decide) rfl rfl ⟨by decide, by decide⟩ ⟨Nat.zero_le _, Nat.zero_le _⟩ (by simp [Value.category]) dX4_differ_2 rfl rfl ?_
  refine z_astore (ls' := [some (.ref (n0 + 0)), some (.int (nI i)), some (.int (nI j)), some (.int t), some (.ref (n0 + (cVk i))), none]) C (by decide) rfl dX4_differ_5 ?_
  refine z_aload_n C rfl dX4_differ_7 ?_
  refine z_iload_n C rfl dX4_differ_8 ?_
  refine z_callV (As := [.int (nI j)]) (r := (some (.ref (n0 + (cVk j))))) (σ1 := (κ, μ, o)) (st := []) (st1 := [.ref (n0 + (cVk j))]) C K ok_X4_71 (c_X4_existing l D n0 κ μ o j (by omega) h0) enc_0 (by decide) rfl rfl ⟨by decide, by decide⟩ ⟨Nat.zero_le _, Nat.zero_le _⟩ (by simp [Value.category]) dX4_differ_9 rfl rfl ?_
  refine z_astore (ls' := [some (.ref (n0 + 0)), some (.int (nI i)), some (.int (nI j)), some (.int t), some (.ref (n0 + (cVk i))), some (.ref (n0 + (cVk j)))]) C (by decide) rfl dX4_differ_12 ?_
  refine z_iload_n C rfl dX4_differ_14 ?_
  refine z_if_lt (tgt := 23) C dX4_differ_15 (by decide) (fun h_15 => ?_) (fun h_15 => ?_)
  · exact absurd h_15 ht0
  · skip
    refine z_iload_n C rfl dX4_differ_18 ?_
    refine z_iconst (v := 4) C (by decide +kernel) dX4_differ_19 ?_
    refine z_icmp_le (tgt := 33) C dX4_differ_20 (by decide) (fun h_20 => ?_) (fun h_20 => ?_)
    · skip
      refine z_iload_n C rfl dX4_differ_33 ?_
      refine z_iconst (v := 4) C (by decide +kernel) dX4_differ_34 ?_
      refine z_icmp_ne (tgt := 49) C dX4_differ_35 (by decide) (fun h_35 => ?_) (fun h_35 => ?_)
      · skip
        refine z_aload_n C rfl dX4_differ_49 ?_
        refine z_aload C rfl dX4_differ_50 ?_
        refine z_aload C rfl dX4_differ_52 ?_
        refine z_iload_n C rfl dX4_differ_54 ?_
        refine z_callV (As := [.ref (n0 + (cVk i)), .ref (n0 + (cVk j)), .int t]) (r := (some (.int (nI (sumTo (cDf1 κ (cVk i) (cVk j) t) 40))))) (σ1 := (κ, μ, o)) (st := []) (st1 := [.int (nI (sumTo (cDf1 κ (cVk i) (cVk j) t) 40))]) C K ok_X4_250 (c_X4_countSort l D n0 κ μ o (cVk i) (cVk j) (isVk hi) (isVk hj) t) enc_0 (by decide) rfl rfl ⟨by decide, by decide⟩ ⟨Nat.zero_le _, Nat.zero_le _⟩ (by simp [Value.category]) dX4_differ_55 rfl rfl ?_
        exact z_endI (hret _ _ dX4_differ_58) rfl rfl
      · exact absurd h_35 hne
    · exact absurd ht4 h_20
set_option maxHeartbeats 4000000 in
set_option maxRecDepth 100000 in
theorem c_X4_users_t (l : Launch) (hfl : l.stackTraces = false) (D : DD) (n0 : Nat) (κ μ : KH) (o : Int64) (e : Int32) (n : Nat) (hE : κ 106 0 = nI n) (hn : n ≤ 96) (he : ¬ ∃ c : Nat, e = nI c ∧ c < n) : HT l D n0 yX4_users cX4_users 2 (some .int) 7 103 [.ref (n0 + 0), .int e] (κ, μ, o) cIO := by
  refine HT.of (by decide) (by simp [Value.category]) (by simp) ?_
  intro pp ee ss mm aa bb me cd C K hxt
  show ZZ pp l ee (rmx 7 103) ss mm aa bb me cd D n0 127 2 0 0 _ _ 0 [some (.ref (n0 + 0)), some (.int e)] []
  refine z_aload_n C rfl dX4_users_0 ?_
  refine z_iload_n C rfl dX4_users_1 ?_
  refine z_callVT (As := [.int e]) (E := cIO) (st := []) C K ok_X4_254 (c_X4_requireExtent_t l hfl D n0 κ μ o n e hE hn he) enc_0 (by decide) rfl rfl ⟨by decide, by decide⟩ ⟨by decide, by decide⟩ (by simp [Value.category]) dX4_users_2 rfl ?_
  exact fun H locs lsA q9 ce hP hS _ h1 h2 h3 => z_out (σ0 := (κ, μ, o)) (a0 := aa) hxt C.2.2.2.2.2.2.2 hP hS h1 h2 h3
set_option maxHeartbeats 4000000 in
set_option maxRecDepth 100000 in
theorem c_X4_users (l : Launch) (D : DD) (n0 : Nat) (κ μ : KH) (o : Int64) (n : Nat) (hE : κ 106 0 = nI n) (hn : n ≤ 96) (e : Nat) (he : e < n) : HM l D n0 yX4_users cX4_users 2 (some .int) 1 21 [.ref (n0 + 0), .int (nI e)] (κ, μ, o) (some (.int (κ 35 e))) (κ, μ, o) := by
  refine HM.of (by decide) (by simp [Value.category]) (by simp) (Or.inr (Or.inl ⟨_, .int, rfl, rfl, rfl⟩)) ?_
  intro pp ee ss mm aa bb me cd Q C K hret
  show ZZ pp l ee (rmk 1 21) ss mm aa bb me cd D n0 127 2 0 0 Q _ 0 [some (.ref (n0 + 0)), some (.int (nI e))] []
  refine z_aload_n C rfl dX4_users_0 ?_
  refine z_iload_n C rfl dX4_users_1 ?_
  refine z_callV (As := [.int (nI e)]) (r := none) (σ1 := (κ, μ, o)) (st := []) (st1 := []) C K ok_X4_254 (c_X4_requireExtent l D n0 κ μ o n e hE hn (by omega)) enc_0 (by decide) rfl rfl ⟨by decide, by decide⟩ ⟨Nat.zero_le _, Nat.zero_le _⟩ (by simp [Value.category]) dX4_users_2 rfl rfl ?_
  refine z_aload_n C rfl dX4_users_5 ?_
  refine gf_X4_10 C dX4_users_6 ?_
  refine z_iload_n C rfl dX4_users_9 ?_
  refine z_callV (As := [.int (nI e)]) (r := (some (.int (κ 35 e)))) (σ1 := (κ, μ, o)) (st := []) (st1 := [.int (κ 35 e)]) C K ok_X4_257 (c_X2_usesOf l D n0 κ μ o 1 e (κ 35 e) (Or.inl rfl) (by omega) rfl) (enc_S (Or.inl rfl)) (isS_lt (Or.inl rfl)) rfl rfl ⟨by decide, by decide⟩ ⟨Nat.zero_le _, Nat.zero_le _⟩ (by simp [Value.category]) dX4_users_10 rfl rfl ?_
  exact z_endI (hret _ _ dX4_users_13) rfl rfl
set_option maxHeartbeats 4000000 in
set_option maxRecDepth 100000 in
theorem c_X4_user_t (l : Launch) (hfl : l.stackTraces = false) (D : DD) (n0 : Nat) (κ μ : KH) (o : Int64) (e i : Int32) (n : Nat) (hE : κ 106 0 = nI n) (hn : n ≤ 96) (he : ¬ ∃ c : Nat, e = nI c ∧ c < n) : HT l D n0 yX4_user cX4_user 3 (some .int) 7 103 [.ref (n0 + 0), .int e, .int i] (κ, μ, o) cIO := by
  refine HT.of (by decide) (by simp [Value.category]) (by simp) ?_
  intro pp ee ss mm aa bb me cd C K hxt
  show ZZ pp l ee (rmx 7 103) ss mm aa bb me cd D n0 127 3 0 0 _ _ 0 [some (.ref (n0 + 0)), some (.int e), some (.int i)] []
  refine z_aload_n C rfl dX4_user_0 ?_
  refine z_iload_n C rfl dX4_user_1 ?_
  refine z_callVT (As := [.int e]) (E := cIO) (st := []) C K ok_X4_254 (c_X4_requireExtent_t l hfl D n0 κ μ o n e hE hn he) enc_0 (by decide) rfl rfl ⟨by decide, by decide⟩ ⟨by decide, by decide⟩ (by simp [Value.category]) dX4_user_2 rfl ?_
  exact fun H locs lsA q9 ce hP hS _ h1 h2 h3 => z_out (σ0 := (κ, μ, o)) (a0 := aa) hxt C.2.2.2.2.2.2.2 hP hS h1 h2 h3
set_option maxHeartbeats 4000000 in
set_option maxRecDepth 100000 in
theorem c_X4_user_n (l : Launch) (D : DD) (n0 : Nat) (κ μ : KH) (o : Int64) (n : Nat) (hE : κ 106 0 = nI n) (hn : n ≤ 96) (e : Nat) (he : e < n) (i : Int32) (hno : ∀ a, a < 640 → κ (1 + 2 + 2 * (a / 40) + 1) (a % 40) = nI e → ¬ nI (sumTo (cU1 κ 1 (nI e)) a) = i) : HM l D n0 yX4_user cX4_user 3 (some .int) 2 46 [.ref (n0 + 0), .int (nI e), .int i] (κ, μ, o) (some (.int ((-1)))) (κ, μ, o) := by
  refine HM.of (by decide) (by simp [Value.category]) (by simp) (Or.inr (Or.inl ⟨_, .int, rfl, rfl, rfl⟩)) ?_
  intro pp ee ss mm aa bb me cd Q C K hret
  show ZZ pp l ee (rmk 2 46) ss mm aa bb me cd D n0 127 3 0 0 Q _ 0 [some (.ref (n0 + 0)), some (.int (nI e)), some (.int i)] []
  refine z_aload_n C rfl dX4_user_0 ?_
  refine z_iload_n C rfl dX4_user_1 ?_
  refine z_callV (As := [.int (nI e)]) (r := none) (σ1 := (κ, μ, o)) (st := []) (st1 := []) C K ok_X4_254 (c_X4_requireExtent l D n0 κ μ o n e hE hn (by omega)) enc_0 (by decide) rfl rfl ⟨by decide, by decide⟩ ⟨Nat.zero_le _, Nat.zero_le _⟩ (by simp [Value.category]) dX4_user_2 rfl rfl ?_
  refine z_aload_n C rfl dX4_user_5 ?_
  refine gf_X4_10 C dX4_user_6 ?_
  refine z_iload_n C rfl dX4_user_9 ?_
  refine z_iload_n C rfl dX4_user_10 ?_
  refine z_callV (As := [.int (nI e), .int i]) (r := (some (.int ((-1))))) (σ1 := (κ, μ, o)) (st := []) (st1 := [.int ((-1))]) C K ok_X4_260 (c_X2_userOf_n l D n0 κ μ o 1 e i okS1 (by omega) hno) (enc_S (Or.inl rfl)) (isS_lt (Or.inl rfl)) rfl rfl ⟨by decide, by decide⟩ ⟨Nat.zero_le _, Nat.zero_le _⟩ (by simp [Value.category]) dX4_user_11 rfl rfl ?_
  exact z_endI (hret _ _ dX4_user_14) rfl rfl
set_option maxHeartbeats 4000000 in
set_option maxRecDepth 100000 in
theorem c_X4_user (l : Launch) (D : DD) (n0 : Nat) (κ μ : KH) (o : Int64) (n : Nat) (hE : κ 106 0 = nI n) (hn : n ≤ 96) (e : Nat) (he : e < n) (i : Int32) (a0 : Nat) (ha0 : a0 < 640) (hm0 : κ (1 + 2 + 2 * (a0 / 40) + 1) (a0 % 40) = nI e) (hi0 : nI (sumTo (cU1 κ 1 (nI e)) a0) = i) (hno : ∀ a, a < a0 → κ (1 + 2 + 2 * (a / 40) + 1) (a % 40) = nI e → ¬ nI (sumTo (cU1 κ 1 (nI e)) a) = i) : HM l D n0 yX4_user cX4_user 3 (some .int) 2 46 [.ref (n0 + 0), .int (nI e), .int i] (κ, μ, o) (some (.int (nI (64 * (a0 / 40) + a0 % 40)))) (κ, μ, o) := by
  refine HM.of (by decide) (by simp [Value.category]) (by simp) (Or.inr (Or.inl ⟨_, .int, rfl, rfl, rfl⟩)) ?_
  intro pp ee ss mm aa bb me cd Q C K hret
  show ZZ pp l ee (rmk 2 46) ss mm aa bb me cd D n0 127 3 0 0 Q _ 0 [some (.ref (n0 + 0)), some (.int (nI e)), some (.int i)] []
  refine z_aload_n C rfl dX4_user_0 ?_
  refine z_iload_n C rfl dX4_user_1 ?_
  refine z_callV (As := [.int (nI e)]) (r := none) (σ1 := (κ, μ, o)) (st := []) (st1 := []) C K ok_X4_254 (c_X4_requireExtent l D n0 κ μ o n e hE hn (by omega)) enc_0 (by decide) rfl rfl ⟨by decide, by decide⟩ ⟨Nat.zero_le _, Nat.zero_le _⟩ (by simp [Value.category]) dX4_user_2 rfl rfl ?_
  refine z_aload_n C rfl dX4_user_5 ?_
  refine gf_X4_10 C dX4_user_6 ?_
  refine z_iload_n C rfl dX4_user_9 ?_
  refine z_iload_n C rfl dX4_user_10 ?_
  refine z_callV (As := [.int (nI e), .int i]) (r := (some (.int (nI (64 * (a0 / 40) + a0 % 40))))) (σ1 := (κ, μ, o)) (st := []) (st1 := [.int (nI (64 * (a0 / 40) + a0 % 40))]) C K ok_X4_260 (c_X2_userOf l D n0 κ μ o 1 e i okS1 (by omega) a0 ha0 hm0 hi0 hno) (enc_S (Or.inl rfl)) (isS_lt (Or.inl rfl)) rfl rfl ⟨by decide, by decide⟩ ⟨Nat.zero_le _, Nat.zero_le _⟩ (by simp [Value.category]) dX4_user_11 rfl rfl ?_
  exact z_endI (hret _ _ dX4_user_14) rfl rfl
set_option maxHeartbeats 4000000 in
set_option maxRecDepth 100000 in
theorem c_X4_told_t (l : Launch) (hfl : l.stackTraces = false) (D : DD) (n0 : Nat) (κ μ : KH) (o : Int64) (t : Int32) (ht : t < 0 ∨ 13 < t) : HT l D n0 yX4_told cX4_told 2 (some .int) 6 82 [.ref (n0 + 0), .int t] (κ, μ, o) cIO := by
  refine HT.of (by decide) (by simp [Value.category]) (by simp) ?_
  intro pp ee ss mm aa bb me cd C K hxt
  show ZZ pp l ee (rmx 6 82) ss mm aa bb me cd D n0 127 2 0 0 _ _ 0 [some (.ref (n0 + 0)), some (.int t)] []
  refine z_iload_n C rfl dX4_told_0 ?_
  refine z_tableOut (tgt := 194) C dX4_told_1 (sw_out 0 13 ht) (by decide) ?_
  exact z_throwS (σ0 := (κ, μ, o)) C K hfl hxt (E := cIO) (by decide +kernel) (by decide +kernel) th4_cIO th5_cIO rfl (List.mem_of_getElem? (i := 18) rfl) th1_cIO th2_cIO th3_cIO dX4_told_194 dX4_told_197 dX4_told_198 dX4_told_200 dX4_told_203 ⟨by decide, by decide, by decide, by decide⟩
set_option maxHeartbeats 4000000 in
set_option maxRecDepth 100000 in
theorem c_X4_told_0 (l : Launch) (D : DD) (n0 : Nat) (κ μ : KH) (o : Int64)  : HM l D n0 yX4_told cX4_told 2 (some .int) 0 0 [.ref (n0 + 0), .int 0] (κ, μ, o) (some (.int (κ 106 0))) (κ, μ, o) := by
  refine HM.of (by decide) (by simp [Value.category]) (by simp) (Or.inr (Or.inl ⟨_, .int, rfl, rfl, rfl⟩)) ?_
  intro pp ee ss mm aa bb me cd Q C K hret
  show ZZ pp l ee (rmk 0 0) ss mm aa bb me cd D n0 127 2 0 0 Q _ 0 [some (.ref (n0 + 0)), some (.int 0)] []
  refine z_iload_n C rfl dX4_told_0 ?_
  refine z_tableIn (tgt := 72) C dX4_told_1 (by decide +kernel) (by decide +kernel) (off := 71) (by decide +kernel) (by decide) ?_
  refine z_aload_n C rfl dX4_told_72 ?_
  refine gf_X4_27 C dX4_told_73 ?_
  refine gf_X4_156 (v := κ 106 0) C rfl dX4_told_76 ?_
  exact z_endI (hret _ _ dX4_told_79) rfl rfl
set_option maxHeartbeats 4000000 in
set_option maxRecDepth 100000 in
theorem c_X4_told_1 (l : Launch) (D : DD) (n0 : Nat) (κ μ : KH) (o : Int64) (n : Nat) (hE : κ 106 0 = nI n) (hn : n ≤ 96) : HM l D n0 yX4_told cX4_told 2 (some .int) 3 64 [.ref (n0 + 0), .int 1] (κ, μ, o) (some (.int (nI (cFM κ n)))) (κ, μ, o) := by
  refine HM.of (by decide) (by simp [Value.category]) (by simp) (Or.inr (Or.inl ⟨_, .int, rfl, rfl, rfl⟩)) ?_
  intro pp ee ss mm aa bb me cd Q C K hret
  show ZZ pp l ee (rmk 3 64) ss mm aa bb me cd D n0 127 2 0 0 Q _ 0 [some (.ref (n0 + 0)), some (.int 1)] []
  refine z_iload_n C rfl dX4_told_0 ?_
  refine z_tableIn (tgt := 80) C dX4_told_1 (by decide +kernel) (by decide +kernel) (off := 79) (by decide +kernel) (by decide) ?_
  refine z_aload_n C rfl dX4_told_80 ?_
  refine gf_X4_27 C dX4_told_81 ?_
  refine z_callV (As := []) (r := (some (.int (nI (cFM κ n))))) (σ1 := (κ, μ, o)) (st := []) (st1 := [.int (nI (cFM κ n))]) C K ok_X4_264 (c_X0_countFree l D n0 κ μ o n hE hn) enc_P (by decide) rfl rfl ⟨by decide, by decide⟩ ⟨Nat.zero_le _, Nat.zero_le _⟩ (by simp [Value.category]) dX4_told_84 rfl rfl ?_
  exact z_endI (hret _ _ dX4_told_87) rfl rfl
set_option maxHeartbeats 4000000 in
set_option maxRecDepth 100000 in
theorem c_X4_told_2 (l : Launch) (D : DD) (n0 : Nat) (κ μ : KH) (o : Int64)  : HM l D n0 yX4_told cX4_told 2 (some .int) 0 0 [.ref (n0 + 0), .int 2] (κ, μ, o) (some (.int (κ 0 7))) (κ, μ, o) := by
  refine HM.of (by decide) (by simp [Value.category]) (by simp) (Or.inr (Or.inl ⟨_, .int, rfl, rfl, rfl⟩)) ?_
  intro pp ee ss mm aa bb me cd Q C K hret
  show ZZ pp l ee (rmk 0 0) ss mm aa bb me cd D n0 127 2 0 0 Q _ 0 [some (.ref (n0 + 0)), some (.int 2)] []
  refine z_iload_n C rfl dX4_told_0 ?_
  refine z_tableIn (tgt := 88) C dX4_told_1 (by decide +kernel) (by decide +kernel) (off := 87) (by decide +kernel) (by decide) ?_
  refine z_aload_n C rfl dX4_told_88 ?_
  refine gf_X4_119 (v := κ 0 7) C rfl dX4_told_89 ?_
  exact z_endI (hret _ _ dX4_told_92) rfl rfl
set_option maxHeartbeats 4000000 in
set_option maxRecDepth 100000 in
theorem c_X4_told_3 (l : Launch) (D : DD) (n0 : Nat) (κ μ : KH) (o : Int64)  : HM l D n0 yX4_told cX4_told 2 (some .int) 0 0 [.ref (n0 + 0), .int 3] (κ, μ, o) (some (.int (κ 108 0))) (κ, μ, o) := by
  refine HM.of (by decide) (by simp [Value.category]) (by simp) (Or.inr (Or.inl ⟨_, .int, rfl, rfl, rfl⟩)) ?_
  intro pp ee ss mm aa bb me cd Q C K hret
  show ZZ pp l ee (rmk 0 0) ss mm aa bb me cd D n0 127 2 0 0 Q _ 0 [some (.ref (n0 + 0)), some (.int 3)] []
  refine z_iload_n C rfl dX4_told_0 ?_
  refine z_tableIn (tgt := 93) C dX4_told_1 (by decide +kernel) (by decide +kernel) (off := 92) (by decide +kernel) (by decide) ?_
  refine z_aload_n C rfl dX4_told_93 ?_
  refine gf_X4_34 C dX4_told_94 ?_
  refine gf_X4_267 (v := κ 108 0) C rfl dX4_told_97 ?_
  exact z_endI (hret _ _ dX4_told_100) rfl rfl
set_option maxHeartbeats 4000000 in
set_option maxRecDepth 100000 in
theorem c_X4_told_4 (l : Launch) (D : DD) (n0 : Nat) (κ μ : KH) (o : Int64)  : HM l D n0 yX4_told cX4_told 2 (some .int) 0 0 [.ref (n0 + 0), .int 4] (κ, μ, o) (some (.int (κ 0 11))) (κ, μ, o) := by
  refine HM.of (by decide) (by simp [Value.category]) (by simp) (Or.inr (Or.inl ⟨_, .int, rfl, rfl, rfl⟩)) ?_
  intro pp ee ss mm aa bb me cd Q C K hret
  show ZZ pp l ee (rmk 0 0) ss mm aa bb me cd D n0 127 2 0 0 Q _ 0 [some (.ref (n0 + 0)), some (.int 4)] []
  refine z_iload_n C rfl dX4_told_0 ?_
  refine z_tableIn (tgt := 101) C dX4_told_1 (by decide +kernel) (by decide +kernel) (off := 100) (by decide +kernel) (by decide) ?_
  refine z_aload_n C rfl dX4_told_101 ?_
  refine gf_X4_94 (v := κ 0 11) C rfl dX4_told_102 ?_
  exact z_endI (hret _ _ dX4_told_105) rfl rfl
set_option maxHeartbeats 4000000 in
set_option maxRecDepth 100000 in
theorem c_X4_told_5 (l : Launch) (D : DD) (n0 : Nat) (κ μ : KH) (o : Int64)  : HM l D n0 yX4_told cX4_told 2 (some .int) 0 0 [.ref (n0 + 0), .int 5] (κ, μ, o) (some (.int (κ 106 3))) (κ, μ, o) := by
  refine HM.of (by decide) (by simp [Value.category]) (by simp) (Or.inr (Or.inl ⟨_, .int, rfl, rfl, rfl⟩)) ?_
  intro pp ee ss mm aa bb me cd Q C K hret
  show ZZ pp l ee (rmk 0 0) ss mm aa bb me cd D n0 127 2 0 0 Q _ 0 [some (.ref (n0 + 0)), some (.int 5)] []
  refine z_iload_n C rfl dX4_told_0 ?_
  refine z_tableIn (tgt := 106) C dX4_told_1 (by decide +kernel) (by decide +kernel) (off := 105) (by decide +kernel) (by decide) ?_
  refine z_aload_n C rfl dX4_told_106 ?_
  refine gf_X4_27 C dX4_told_107 ?_
  refine gf_X4_268 (v := κ 106 3) C rfl dX4_told_110 ?_
  exact z_endI (hret _ _ dX4_told_113) rfl rfl
set_option maxHeartbeats 4000000 in
set_option maxRecDepth 100000 in
theorem c_X4_told_6 (l : Launch) (D : DD) (n0 : Nat) (κ μ : KH) (o : Int64)  : HM l D n0 yX4_told cX4_told 2 (some .int) 0 0 [.ref (n0 + 0), .int 6] (κ, μ, o) (some (.int (κ 106 1))) (κ, μ, o) := by
  refine HM.of (by decide) (by simp [Value.category]) (by simp) (Or.inr (Or.inl ⟨_, .int, rfl, rfl, rfl⟩)) ?_
  intro pp ee ss mm aa bb me cd Q C K hret
  show ZZ pp l ee (rmk 0 0) ss mm aa bb me cd D n0 127 2 0 0 Q _ 0 [some (.ref (n0 + 0)), some (.int 6)] []
  refine z_iload_n C rfl dX4_told_0 ?_
  refine z_tableIn (tgt := 114) C dX4_told_1 (by decide +kernel) (by decide +kernel) (off := 113) (by decide +kernel) (by decide) ?_
  refine z_aload_n C rfl dX4_told_114 ?_
  refine gf_X4_27 C dX4_told_115 ?_
  refine gf_X4_161 (v := κ 106 1) C rfl dX4_told_118 ?_
  exact z_endI (hret _ _ dX4_told_121) rfl rfl
set_option maxHeartbeats 4000000 in
set_option maxRecDepth 100000 in
theorem c_X4_told_7 (l : Launch) (D : DD) (n0 : Nat) (κ μ : KH) (o : Int64)  : HM l D n0 yX4_told cX4_told 2 (some .int) 0 0 [.ref (n0 + 0), .int 7] (κ, μ, o) (some (.int (κ 106 4))) (κ, μ, o) := by
  refine HM.of (by decide) (by simp [Value.category]) (by simp) (Or.inr (Or.inl ⟨_, .int, rfl, rfl, rfl⟩)) ?_
  intro pp ee ss mm aa bb me cd Q C K hret
  show ZZ pp l ee (rmk 0 0) ss mm aa bb me cd D n0 127 2 0 0 Q _ 0 [some (.ref (n0 + 0)), some (.int 7)] []
  refine z_iload_n C rfl dX4_told_0 ?_
  refine z_tableIn (tgt := 122) C dX4_told_1 (by decide +kernel) (by decide +kernel) (off := 121) (by decide +kernel) (by decide) ?_
  refine z_aload_n C rfl dX4_told_122 ?_
  refine gf_X4_27 C dX4_told_123 ?_
  refine gf_X4_271 (v := κ 106 4) C rfl dX4_told_126 ?_
  exact z_endI (hret _ _ dX4_told_129) rfl rfl
set_option maxHeartbeats 4000000 in
set_option maxRecDepth 100000 in
theorem c_X4_told_8 (l : Launch) (D : DD) (n0 : Nat) (κ μ : KH) (o : Int64)  : HM l D n0 yX4_told cX4_told 2 (some .int) 0 0 [.ref (n0 + 0), .int 8] (κ, μ, o) (some (.int (κ 1 1))) (κ, μ, o) := by
  refine HM.of (by decide) (by simp [Value.category]) (by simp) (Or.inr (Or.inl ⟨_, .int, rfl, rfl, rfl⟩)) ?_
  intro pp ee ss mm aa bb me cd Q C K hret
  show ZZ pp l ee (rmk 0 0) ss mm aa bb me cd D n0 127 2 0 0 Q _ 0 [some (.ref (n0 + 0)), some (.int 8)] []
  refine z_iload_n C rfl dX4_told_0 ?_
  refine z_tableIn (tgt := 130) C dX4_told_1 (by decide +kernel) (by decide +kernel) (off := 129) (by decide +kernel) (by decide) ?_
  refine z_aload_n C rfl dX4_told_130 ?_
  refine gf_X4_10 C dX4_told_131 ?_
  refine gf_X4_67 (v := κ 1 1) C (Or.inl rfl) rfl dX4_told_134 ?_
  exact z_endI (hret _ _ dX4_told_137) rfl rfl
set_option maxHeartbeats 4000000 in
set_option maxRecDepth 100000 in
theorem c_X4_told_9 (l : Launch) (D : DD) (n0 : Nat) (κ μ : KH) (o : Int64)  : HM l D n0 yX4_told cX4_told 2 (some .int) 0 0 [.ref (n0 + 0), .int 9] (κ, μ, o) (some (.int (κ 36 1))) (κ, μ, o) := by
  refine HM.of (by decide) (by simp [Value.category]) (by simp) (Or.inr (Or.inl ⟨_, .int, rfl, rfl, rfl⟩)) ?_
  intro pp ee ss mm aa bb me cd Q C K hret
  show ZZ pp l ee (rmk 0 0) ss mm aa bb me cd D n0 127 2 0 0 Q _ 0 [some (.ref (n0 + 0)), some (.int 9)] []
  refine z_iload_n C rfl dX4_told_0 ?_
  refine z_tableIn (tgt := 138) C dX4_told_1 (by decide +kernel) (by decide +kernel) (off := 137) (by decide +kernel) (by decide) ?_
  refine z_aload_n C rfl dX4_told_138 ?_
  refine gf_X4_16 C dX4_told_139 ?_
  refine gf_X4_67 (v := κ 36 1) C (Or.inr (Or.inl rfl)) rfl dX4_told_142 ?_
  exact z_endI (hret _ _ dX4_told_145) rfl rfl
set_option maxHeartbeats 4000000 in
set_option maxRecDepth 100000 in
theorem c_X4_told_10 (l : Launch) (D : DD) (n0 : Nat) (κ μ : KH) (o : Int64)  : HM l D n0 yX4_told cX4_told 2 (some .int) 0 0 [.ref (n0 + 0), .int 10] (κ, μ, o) (some (.int (κ 71 1))) (κ, μ, o) := by
  refine HM.of (by decide) (by simp [Value.category]) (by simp) (Or.inr (Or.inl ⟨_, .int, rfl, rfl, rfl⟩)) ?_
  intro pp ee ss mm aa bb me cd Q C K hret
  show ZZ pp l ee (rmk 0 0) ss mm aa bb me cd D n0 127 2 0 0 Q _ 0 [some (.ref (n0 + 0)), some (.int 10)] []
  refine z_iload_n C rfl dX4_told_0 ?_
  refine z_tableIn (tgt := 146) C dX4_told_1 (by decide +kernel) (by decide +kernel) (off := 145) (by decide +kernel) (by decide) ?_
  refine z_aload_n C rfl dX4_told_146 ?_
  refine gf_X4_19 C dX4_told_147 ?_
  refine gf_X4_67 (v := κ 71 1) C (Or.inr (Or.inr rfl)) rfl dX4_told_150 ?_
  exact z_endI (hret _ _ dX4_told_153) rfl rfl
set_option maxHeartbeats 4000000 in
set_option maxRecDepth 100000 in
theorem c_X4_told_11 (l : Launch) (D : DD) (n0 : Nat) (κ μ : KH) (o : Int64)  : HM l D n0 yX4_told cX4_told 2 (some .int) 0 0 [.ref (n0 + 0), .int 11] (κ, μ, o) (some (.int (if κ 0 6 = 0 then 0 else 1))) (κ, μ, o) := by
  refine HM.of (by decide) (by simp [Value.category]) (by simp) (Or.inr (Or.inl ⟨_, .int, rfl, rfl, rfl⟩)) ?_
  intro pp ee ss mm aa bb me cd Q C K hret
  show ZZ pp l ee (rmk 0 0) ss mm aa bb me cd D n0 127 2 0 0 Q _ 0 [some (.ref (n0 + 0)), some (.int 11)] []
  refine z_iload_n C rfl dX4_told_0 ?_
  refine z_tableIn (tgt := 154) C dX4_told_1 (by decide +kernel) (by decide +kernel) (off := 153) (by decide +kernel) (by decide) ?_
  refine z_aload_n C rfl dX4_told_154 ?_
  refine gf_X4_200 (v := κ 0 6) C rfl dX4_told_155 ?_
  refine z_if_eq (tgt := 165) C dX4_told_158 (by decide) (fun h_158 => ?_) (fun h_158 => ?_)
  · skip
    refine z_iconst (v := 0) C (by decide +kernel) dX4_told_165 ?_
    exact z_endI (hret _ _ dX4_told_166) (by rw [if_pos h_158]) rfl
  · skip
    refine z_iconst (v := 1) C (by decide +kernel) dX4_told_161 ?_
    refine z_goto (tgt := 166) C dX4_told_162 (by decide) ?_
    exact z_endI (hret _ _ dX4_told_166) (by rw [if_neg h_158]) rfl
set_option maxHeartbeats 4000000 in
set_option maxRecDepth 100000 in
theorem c_X4_told_12 (l : Launch) (D : DD) (n0 : Nat) (κ μ : KH) (o : Int64)  : HM l D n0 yX4_told cX4_told 2 (some .int) 0 0 [.ref (n0 + 0), .int 12] (κ, μ, o) (some (.int (κ 0 10))) (κ, μ, o) := by
  refine HM.of (by decide) (by simp [Value.category]) (by simp) (Or.inr (Or.inl ⟨_, .int, rfl, rfl, rfl⟩)) ?_
  intro pp ee ss mm aa bb me cd Q C K hret
  show ZZ pp l ee (rmk 0 0) ss mm aa bb me cd D n0 127 2 0 0 Q _ 0 [some (.ref (n0 + 0)), some (.int 12)] []
  refine z_iload_n C rfl dX4_told_0 ?_
  refine z_tableIn (tgt := 167) C dX4_told_1 (by decide +kernel) (by decide +kernel) (off := 166) (by decide +kernel) (by decide) ?_
  refine z_aload_n C rfl dX4_told_167 ?_
  refine gf_X4_220 (v := κ 0 10) C rfl dX4_told_168 ?_
  exact z_endI (hret _ _ dX4_told_171) rfl rfl
set_option maxHeartbeats 4000000 in
set_option maxRecDepth 100000 in
theorem c_X4_told_13 (l : Launch) (D : DD) (n0 : Nat) (κ μ : KH) (o : Int64)  : HM l D n0 yX4_told cX4_told 2 (some .int) 0 0 [.ref (n0 + 0), .int 13] (κ, μ, o) (some (.int (if κ 0 7 = 1 then κ 0 9 - κ 0 10 else 0))) (κ, μ, o) := by
  refine HM.of (by decide) (by simp [Value.category]) (by simp) (Or.inr (Or.inl ⟨_, .int, rfl, rfl, rfl⟩)) ?_
  intro pp ee ss mm aa bb me cd Q C K hret
  show ZZ pp l ee (rmk 0 0) ss mm aa bb me cd D n0 127 2 0 0 Q _ 0 [some (.ref (n0 + 0)), some (.int 13)] []
  refine z_iload_n C rfl dX4_told_0 ?_
  refine z_tableIn (tgt := 172) C dX4_told_1 (by decide +kernel) (by decide +kernel) (off := 171) (by decide +kernel) (by decide) ?_
  refine z_aload_n C rfl dX4_told_172 ?_
  refine gf_X4_119 (v := κ 0 7) C rfl dX4_told_173 ?_
  refine z_iconst (v := 1) C (by decide +kernel) dX4_told_176 ?_
  refine z_icmp_ne (tgt := 192) C dX4_told_177 (by decide) (fun h_177 => ?_) (fun h_177 => ?_)
  · skip
    refine z_iconst (v := 0) C (by decide +kernel) dX4_told_192 ?_
    exact z_endI (hret _ _ dX4_told_193) (by rw [if_neg h_177]) rfl
  · skip
    refine z_aload_n C rfl dX4_told_180 ?_
    refine gf_X4_223 (v := κ 0 9) C rfl dX4_told_181 ?_
    refine z_aload_n C rfl dX4_told_184 ?_
    refine gf_X4_220 (v := κ 0 10) C rfl dX4_told_185 ?_
    refine z_isub (v := (κ 0 9) - (κ 0 10)) C rfl dX4_told_188 ?_
    refine z_goto (tgt := 193) C dX4_told_189 (by decide) ?_
    exact z_endI (hret _ _ dX4_told_193) (by rw [if_pos h_177]) rfl
