/-! the class's cells: rows in general, copies, fills -/
def cpy (κ : KH) (d s n : Nat) : KH := fun c i => if c = d ∧ i < n then κ s i else κ c i
def fil (κ : KH) (d : Nat) (x : Int32) (n : Nat) : KH := iterK (fun j m => up m d j x) n κ
theorem cpy_cell {κ : KH} {d s n c : Nat} (h : c ≠ d) : cpy κ d s n c = κ c := funext fun i => if_neg (fun q => h q.1)
theorem cpy_va {κ : KH} {d s n : Nat} : cpy κ d s n d = va_cpy (κ s) (κ d) 0 0 n := by
  funext i
  unfold cpy va_cpy
  by_cases h : i < n
  · rw [if_pos ⟨rfl, h⟩, if_pos (by omega)]; congr 1; omega
  · rw [if_neg (fun q => h q.2), if_neg (by omega)]
theorem enc_kc {D : DD} {n0 j : Nat} {κ κ' μ : KH} {o : Int64} (h : κ' j = κ j) : enc D n0 (κ', μ, o) j = enc D n0 (κ, μ, o) j := by
  show encR D n0 j (κ' j) _ _ = encR D n0 j (κ j) _ _
  rw [h]
section GROWS
variable {p : Program} {l : Launch} {e : Env} {R : Room} {s : State} {m : MethodId} {args : Array Value} {below : List Frame} {meth : Method} {c : Code} {D : DD} {n0 nL cells slots : Nat} {Q : State → Prop} {own : String} {cc : ByteArray} {κ μ : KH} {o : Int64} {pc : Nat} {ls : List (Option Value)} {st : List Value}
theorem as_g (C : Cx p l s m args meth c D n0 own cc nL) {d n : Nat} (he : ∀ κ : KH, enc D n0 (κ, μ, o) d = .inl (D.2.1, n, .inl (κ d))) (hd127 : d < 127) (hn : n < 2 ^ 31) {i x : Int32} (j : Nat) (hij : i = nI j) (hj : j < n) (hd : decode cc pc = .ok (.iastore, 1)) (kk : ZZ p l e R s m args below meth c D n0 127 nL cells slots Q (up κ d j x, μ, o) (pc + 1) ls st) : ZZ p l e R s m args below meth c D n0 127 nL cells slots Q (κ, μ, o) pc ls (.int x :: .int i :: .ref (n0 + d) :: st) := z_iast (σ1 := (up κ d j x, μ, o)) C j (he κ) (by rw [he, up_upd]) (fun j hj => enc_up hj) hd127 hij hj hn hd kk
theorem an_g (C : Cx p l s m args meth c D n0 own cc nL) {d n : Nat} (he : ∀ κ : KH, enc D n0 (κ, μ, o) d = .inl (D.2.1, n, .inl (κ d))) (hd127 : d < 127) (hd : decode cc pc = .ok (.arraylength, 1)) (kk : ZZ p l e R s m args below meth c D n0 127 nL cells slots Q (κ, μ, o) (pc + 1) ls (.int (nI n) :: st)) : ZZ p l e R s m args below meth c D n0 127 nL cells slots Q (κ, μ, o) pc ls (.ref (n0 + d) :: st) := z_alen C 0 (he κ) rfl hd127 rfl hd kk
/-- System.arraycopy from 0 to 0 -/
theorem z_acpy (C : Cx p l s m args meth c D n0 own cc nL) {idx src dst n ns nd : Nat} {x : Int32} (hes : enc D n0 (κ, μ, o) src = .inl (D.2.1, ns, .inl (κ src))) (hed : ∀ κ : KH, enc D n0 (κ, μ, o) dst = .inl (D.2.1, nd, .inl (κ dst))) (hs127 : src < 127) (hd127 : dst < 127) (hx : x = nI n) (hns : n ≤ ns) (hnd : n ≤ nd) (hn : n < 2 ^ 31)
    (w1 : Cond.methodLink own idx arraycopyName ∈ tb) (w2 : Cond.native arraycopyName ∈ tb) (w3 : Cond.static arraycopyName ∈ tb) (w4 : Cond.initialized "java/lang/System" ∈ tb) (hR : 1 ≤ R.frames ∧ (st.map fun v => v.category).sum + (nativeFrameWords "java/lang/System" "arraycopy" 5 + 11) ≤ R.locals) (hd : decode cc pc = .ok (.invokestatic idx, 3))
    (kk : ZZ p l e R s m args below meth c D n0 127 nL cells slots Q (cpy κ dst src n, μ, o) (pc + 3) ls st) : ZZ p l e R s m args below meth c D n0 127 nL cells slots Q (κ, μ, o) pc ls (.int x :: .int 0 :: .ref (n0 + dst) :: .int 0 :: .ref (n0 + src) :: st) := by
  subst hx
  intro H locs lsA hP hS hl
  have h0 : (0 : Int32).toNatClampNeg = 0 := by decide +kernel
  refine va_copyi C.1 C.2.1 (C.2.2.1.trans hl.1.symm) C.2.2.2.1 (C.2.2.2.2.1 _ w1) (C.2.2.2.2.1 _ w2) (C.2.2.2.2.1 _ w3) (C.2.2.2.2.1 _ w4) C.2.2.2.2.2.1 hP wl_D hS src dst 0 0 (by rw [wl_get hs127, hes]) (by rw [wl_get hd127, hed]) rfl rfl rfl (by decide +kernel) (by decide +kernel) (nI_pos hn) (by rw [h0, nI_clamp hn]; omega) (by rw [h0, nI_clamp hn]; omega) (fun i hi => rfl) hR.1 hR.2 hd ?_
  rw [h0, nI_clamp hn]
  refine fun H1 locs1 hP1 hD1 hS1 => kk H1 locs1 lsA ?_ hS1 hl
  rw [← wl_set (σ := (κ, μ, o)) (σ' := (cpy κ dst src n, μ, o)) (k := dst) (x := .inl (D.2.1, nd, .inl (va_cpy (κ src) (κ dst) 0 0 n))) ?_ (fun j hj => enc_kc (cpy_cell hj))]
  · exact hP1
  · rw [hed, cpy_va]
end GROWS
theorem isS_V {b k : Nat} (hb : isS b) (hk : isV k) : b + 34 ≠ k ∧ b + 34 ≠ k + 1 ∧ b ≠ k ∧ b ≠ k + 1 ∧ b + 1 ≠ k ∧ b + 1 ≠ k + 1 := by
  obtain ⟨h1, h2, h3, h4, h5⟩ := hk
  rcases hb with rfl | rfl | rfl <;> (refine ⟨?_, ?_, ?_, ?_, ?_, ?_⟩ <;> omega)
theorem isV_big {k : Nat} (hk : isV k) : k ≠ 0 ∧ k < 106 ∧ k + 1 < 106 := by
  obtain ⟨h1, h2, h3, h4, h5⟩ := hk
  refine ⟨by omega, h2, ?_⟩
  omega
/-! the class's volumes, queue, states, pool -/
def cLast (κ : KH) (k : Nat) : Nat → Int32
  | 0 => -1
  | p + 1 => if κ (k + 1) p = -1 then cLast κ k p else nI p
def cVc (κ : KH) (k j : Nat) : KH := cpy (up (up (up (up (up (up κ k 0 (κ j 0)) k 1 (κ j 1)) k 2 (κ j 2)) k 3 (κ j 3)) k 4 (κ j 4)) k 5 (κ j 5)) (k + 1) (j + 1) 40
def cVz (κ : KH) (k : Nat) : KH := fil (up (up (up κ k 0 0) k 1 0) k 5 0) (k + 1) (-1) 40
def cPut (κ : KH) (a : Nat) (v w x : Int32) : KH := up (up (up κ 109 a v) 110 a w) 111 a x
def cW1 (κ : KH) (v a b : Int32) (i : Nat) : Bool := decide (κ 109 i = v) && decide (a ≤ κ 110 i / 4) && decide (κ 110 i / 4 < b)
def cWt (κ : KH) (n : Nat) (v a b : Int32) : Bool := anyTo (cW1 κ v a b) n
theorem anyTo_t {f : Nat → Bool} {i : Nat} (h : f i = true) : ∀ n, i < n → anyTo f n = true
  | 0, q => absurd q (by omega)
  | n + 1, q => by
    rw [anyTo]
    by_cases hi : i = n
    · subst hi; rw [h]; simp
    · rw [anyTo_t h n (by omega)]; rfl
def cQ1 (κ : KH) (v : Int32) (i : Nat) : Nat := if κ 109 i = v then 1 else 0
def cSh (j : Nat) (m : KH) : KH := cPut m j (m 109 (j + 1)) (m 110 (j + 1)) (m 111 (j + 1))
def cUq (κ : KH) (n : Nat) : KH := up (iterK cSh n κ) 108 0 (nI n)
def cRm (κ : KH) (v : Int32) : Nat → KH × Nat
  | 0 => (κ, 0)
  | i + 1 => if (cRm κ v i).1 109 i = v then cRm κ v i else (cPut (cRm κ v i).1 (cRm κ v i).2 ((cRm κ v i).1 109 i) ((cRm κ v i).1 110 i) ((cRm κ v i).1 111 i), (cRm κ v i).2 + 1)
theorem cRm_le (κ : KH) (v : Int32) : ∀ i, (cRm κ v i).2 ≤ i
  | 0 => Nat.le_refl _
  | i + 1 => by
    have := cRm_le κ v i
    rw [cRm]; split
    · omega
    · dsimp only; omega
theorem cRm_o (κ : KH) (v : Int32) (c : Nat) (h1 : c ≠ 109) (h2 : c ≠ 110) (h3 : c ≠ 111) : ∀ i, (cRm κ v i).1 c = κ c
  | 0 => rfl
  | i + 1 => by
    have := cRm_o κ v c h1 h2 h3 i
    rw [cRm]; split
    · exact this
    · dsimp only; unfold cPut; rw [up_cell h3, up_cell h2, up_cell h1]; exact this
theorem cSh_o (κ : KH) (c : Nat) (h1 : c ≠ 109) (h2 : c ≠ 110) (h3 : c ≠ 111) : ∀ i, iterK cSh i κ c = κ c
  | 0 => rfl
  | i + 1 => by
    have := cSh_o κ c h1 h2 h3 i
    show cSh i (iterK cSh i κ) c = _
    unfold cSh cPut; rw [up_cell h3, up_cell h2, up_cell h1]; exact this
def cDec (κ : KH) (b k : Nat) (x : Int32) : KH := if x = -1 then κ else up (up κ (b + 34) (tn x) (κ (b + 34) (tn x) - 1)) k 5 (κ k 5 - 1)
def cInc (κ : KH) (b k : Nat) (x : Int32) : KH := if x = -1 then κ else up (up κ (b + 34) (tn x) (κ (b + 34) (tn x) + 1)) k 5 (κ k 5 + 1)
/-- a place of a volume is mapped anew: counted along -/
def cSet (κ : KH) (b k p : Nat) (x : Int32) : KH := up (cInc (cDec κ b k (κ (k + 1) p)) b k x) (k + 1) p x
def cUm (κ : KH) (b k a c : Nat) : KH := iterK (fun j m => cSet m b k (a + j) (-1)) (c - a) κ
def cFree (κ : KH) (e : Nat) : Bool := decide (κ 35 e + κ 70 e + κ 105 e = 0)
def cSole (κ : KH) (e : Nat) : Bool := decide (κ 35 e = 1) && decide (κ 70 e + κ 105 e = 0)
def cSol (κ : KH) (x : Int32) : Bool := if x = -1 then false else cSole κ (tn x)
def cFr1 (κ : KH) (e : Nat) : Nat := if cFree κ e = true then 1 else 0
def cFM (κ : KH) (n : Nat) : Nat := sumTo (cFr1 κ) n
theorem cFr1_le (κ : KH) (e : Nat) : cFr1 κ e ≤ 1 := by unfold cFr1; split <;> omega
theorem cFM_le (κ : KH) (n : Nat) : cFM κ n ≤ n := Nat.le_trans (sumTo_le (cFr1_le κ) n) (by omega)
def cFnd (κ : KH) (n : Nat) : Nat → Nat → Nat
  | 0, e => e
  | k + 1, e => if cFree κ e = true then e else cFnd κ n k (nx n e)
def cRch (κ : KH) (n : Nat) : Nat → Nat → Prop
  | 0, _ => False
  | k + 1, e => cFree κ e = true ∨ cRch κ n k (nx n e)
def cTk (κ : KH) (n e : Nat) : KH := up (up κ 106 1 (nI (nx n e))) 106 4 (κ 106 4 + 1)
theorem cSet_ext {κ : KH} {b k p : Nat} {x : Int32} (hb : isS b) (hk : isV k) (q : Nat) : cSet κ b k p x (k + 1) q = if q = p then x else κ (k + 1) q := by
  obtain ⟨h1, h2, -, -, -, -⟩ := isS_V hb hk
  unfold cSet
  by_cases h : q = p
  · subst h; rw [if_pos rfl]; exact up_self
  · rw [if_neg h, up_ix h]
    unfold cInc cDec
    split <;> split <;> first | rfl | (rw [up_cell (by omega), up_cell (Ne.symm h2), up_cell (by omega), up_cell (Ne.symm h2)]; done) | (rw [up_cell (by omega), up_cell (Ne.symm h2)]; done)
theorem cUm_ext {κ : KH} {b k a : Nat} (hb : isS b) (hk : isV k) (q : Nat) : ∀ j, iterK (fun j m => cSet m b k (a + j) (-1)) j κ (k + 1) q = if a ≤ q ∧ q < a + j then -1 else κ (k + 1) q
  | 0 => by rw [if_neg (by omega)]; rfl
  | j + 1 => by
    show cSet (iterK (fun j m => cSet m b k (a + j) (-1)) j κ) b k (a + j) (-1) (k + 1) q = _
    rw [cSet_ext hb hk, cUm_ext hb hk q j]
    by_cases h : q = a + j
    · rw [if_pos h, if_pos (by omega)]
    · rw [if_neg h]
      by_cases h2 : a ≤ q ∧ q < a + j
      · rw [if_pos h2, if_pos (by omega)]
      · rw [if_neg h2, if_neg (by omega)]
def cBk (κ : KH) (b : Nat) (v : Nat) : Bool := !decide (κ (b + 2 + 2 * v) 0 = 0) && !decide (κ (b + 2 + 2 * v) 1 = 0)
def cHB (κ : KH) (b : Nat) : Bool := anyTo (cBk κ b) 16
def cSc1 (b a v : Nat) (m : KH) : KH := cVc m (b + 2 + 2 * v) (a + 2 + 2 * v)
def cScp (κ : KH) (b a : Nat) : KH := cpy (iterK (cSc1 b a) 16 (up (up κ b 0 (κ a 0)) b 1 (κ a 1))) (b + 34) (a + 34) 96
def cSz1 (b v : Nat) (m : KH) : KH := cVz m (b + 2 + 2 * v)
def cSz (κ : KH) (b : Nat) : KH := fil (iterK (cSz1 b) 16 (up (up κ b 0 0) b 1 0)) (b + 34) 0 96
theorem isS_l34 {b : Nat} (h : isS b) : b + 34 < 127 := by rcases h with rfl | rfl | rfl <;> decide
theorem isV_l1 {k : Nat} (h : isV k) : k + 1 < 127 := by have := h.2.1; omega
theorem wdx_251 : Cond.methodLink RX3 41 arraycopyName ∈ tb := tbm 251 (by decide +kernel) rfl
theorem wdx_254 : Cond.methodLink RX2 70 arraycopyName ∈ tb := tbm 254 (by decide +kernel) rfl
theorem wdx_sta : Cond.static arraycopyName ∈ tb := tbm 252 (by decide +kernel) rfl
theorem wdx_nat : Cond.native arraycopyName ∈ tb := tbm 253 (by decide +kernel) rfl
theorem wdx_ini : Cond.initialized "java/lang/System" ∈ tb := tbm 59 (by decide +kernel) rfl
theorem cDec_m {κ : KH} {b k : Nat} : cDec κ b k (-1) = κ := if_pos rfl
theorem cInc_m {κ : KH} {b k : Nat} : cInc κ b k (-1) = κ := if_pos rfl
theorem cDec_n {κ : KH} {b k a : Nat} (h : a < 96) : cDec κ b k (nI a) = up (up κ (b + 34) a (κ (b + 34) a - 1)) k 5 (κ k 5 - 1) := by
  unfold cDec; rw [if_neg (nI_m1 (by omega)), tn_nI (by omega)]
theorem cInc_n {κ : KH} {b k a : Nat} (h : a < 96) : cInc κ b k (nI a) = up (up κ (b + 34) a (κ (b + 34) a + 1)) k 5 (κ k 5 + 1) := by
  unfold cInc; rw [if_neg (nI_m1 (by omega)), tn_nI (by omega)]
theorem cSc_o {b a c : Nat} (κ : KH) (h : ∀ v, v < 16 → c ≠ b + 2 + 2 * v ∧ c ≠ b + 2 + 2 * v + 1) : ∀ i, i ≤ 16 → iterK (cSc1 b a) i κ c = κ c
  | 0, _ => rfl
  | i + 1, hi => by
    obtain ⟨h1, h2⟩ := h i (by omega)
    show cSc1 b a i (iterK (cSc1 b a) i κ) c = _
    unfold cSc1 cVc
    rw [cpy_cell h2, up_cell h1, up_cell h1, up_cell h1, up_cell h1, up_cell h1, up_cell h1]
    exact cSc_o κ h i (by omega)
theorem isS_2 {a b : Nat} (ha : isS a) (hb : isS b) (h : a ≠ b) : ∀ v w, v < 16 → w < 16 → a + 2 + 2 * v ≠ b + 2 + 2 * w ∧ a + 2 + 2 * v ≠ b + 2 + 2 * w + 1 := by
  rcases ha with rfl | rfl | rfl <;> rcases hb with rfl | rfl | rfl <;> intro v w hv hw <;> omega
theorem cRch_f {κ : KH} {n : Nat} : ∀ k e, cRch κ n k e → cFree κ (cFnd κ n k e) = true
  | 0, _, h => h.elim
  | k + 1, e, h => by
    rw [cFnd]
    split
    · assumption
    · rename_i hn
      exact cRch_f k _ (h.resolve_left hn)
set_option maxHeartbeats 4000000 in
set_option maxRecDepth 100000 in
theorem c_fill (l : Launch) (D : DD) (n0 : Nat) (κ μ : KH) (o : Int64) (d n : Nat) (x : Int32) (he : ∀ κ : KH, enc D n0 (κ, μ, o) d = .inl (D.2.1, n, .inl (κ d))) (hd : d < 127) (hn : n < 2 ^ 31) : HM l D n0 yJ7_fill_53178 cJ7_fill_53178 4 none 0 0 [.ref (n0 + d), .int x] (κ, μ, o) none (fil κ d x n, μ, o) := by
  refine HM.of (by decide) (by simp [Value.category]) (by simp) (Or.inl ⟨rfl, rfl⟩) ?_
  intro pp ee ss mm aa bb me cd Q C K hret
  show ZZ pp l ee (rmk 0 0) ss mm aa bb me cd D n0 127 4 0 0 Q _ 0 [some (.ref (n0 + d)), some (.int x), none, none] []
  refine z_iconst (v := 0) C (by decide +kernel) dJ7_fill_53178_0 ?_
  refine z_istore_n (ls' := [some (.ref (n0 + d)), some (.int x), some (.int 0), none]) C (by decide) rfl dJ7_fill_53178_1 ?_
  refine z_aload_n C rfl dJ7_fill_53178_2 ?_
  refine an_g C he hd dJ7_fill_53178_3 ?_
  refine z_istore_n (ls' := [some (.ref (n0 + d)), some (.int x), some (.int 0), some (.int (nI n))]) C (by decide) rfl dJ7_fill_53178_4 ?_
  refine z_cast (σ1 := (iterK (fun j m => up m d j x) 0 κ, μ, o)) (ls' := [some (.ref (n0 + d)), some (.int x), some (.int (nI 0)), some (.int (nI n))]) (st' := []) (z_for (P := fun i => ZZ pp l ee (rmk 0 0) ss mm aa bb me cd D n0 127 4 0 0 Q (iterK (fun j m => up m d j x) i κ, μ, o) 5 [some (.ref (n0 + d)), some (.int x), some (.int (nI i)), some (.int (nI n))] []) n ?_ ?_ 0 (Nat.zero_le _)) rfl ⟨rfl, rfl, rfl, rfl, trivial⟩ rfl
  · refine z_iload_n C rfl dJ7_fill_53178_5 ?_
    refine z_iload_n C rfl dJ7_fill_53178_6 ?_
    refine z_icmp_ge (tgt := 20) C dJ7_fill_53178_7 (by decide) (fun h => ?_) (fun h => ?_)
    · exact z_endV (hret _ _ dJ7_fill_53178_20) rfl
    · exact absurd (Int32.le_refl _) h
  · intro i hi ih
    refine z_iload_n C rfl dJ7_fill_53178_5 ?_
    refine z_iload_n C rfl dJ7_fill_53178_6 ?_
    refine z_icmp_ge (tgt := 20) C dJ7_fill_53178_7 (by decide) (fun h => ?_) (fun h => ?_)
    · exact absurd (cv_le hn (by omega) h) (by omega)
    · refine z_aload_n C rfl dJ7_fill_53178_10 ?_
      refine z_iload_n C rfl dJ7_fill_53178_11 ?_
      refine z_iload_n C rfl dJ7_fill_53178_12 ?_
      refine as_g C he hd hn i rfl hi dJ7_fill_53178_13 ?_
      refine z_iinc (v := nI (i + 1)) (ls' := [some (.ref (n0 + d)), some (.int x), some (.int (nI (i + 1))), some (.int (nI n))]) C rfl (cv_inc i 1) (by decide) rfl dJ7_fill_53178_14 ?_
      refine z_goto (tgt := 5) C dJ7_fill_53178_17 (by decide) ?_
      exact z_cast ih rfl ⟨rfl, rfl, rfl, rfl, trivial⟩ rfl
set_option maxHeartbeats 4000000 in
set_option maxRecDepth 100000 in
theorem c_X3_lastMapped (l : Launch) (D : DD) (n0 : Nat) (κ μ : KH) (o : Int64) (k : Nat) (hk : isV k) : HM l D n0 yX3_lastMapped cX3_lastMapped 2 (some .int) 0 0 [.ref (n0 + k)] (κ, μ, o) (some (.int (cLast κ k 40))) (κ, μ, o) := by
  refine HM.of (by decide) (by simp [Value.category]) (by simp) (Or.inr (Or.inl ⟨_, .int, rfl, rfl, rfl⟩)) ?_
  intro pp ee ss mm aa bb me cd Q C K hret
  show ZZ pp l ee (rmk 0 0) ss mm aa bb me cd D n0 127 2 0 0 Q (κ, μ, o) 0 [some (.ref (n0 + k)), none] []
  have hl : ∀ q : Nat, q ≤ 40 → cLast κ k q = cLast κ k 40 → ZZ pp l ee (rmk 0 0) ss mm aa bb me cd D n0 127 2 0 0 Q (κ, μ, o) 8 [some (.ref (n0 + k)), some (.int (nI q - 1))] [] := by
    intro q
    induction q with
    | zero =>
      intro hq hX
      refine z_iload_n C rfl dX3_lastMapped_8 ?_
      refine z_if_lt (tgt := 30) C dX3_lastMapped_9 (by decide) (fun h => ?_) (fun h => ?_)
      · refine z_iconst (v := (-1)) C (by decide +kernel) dX3_lastMapped_30 ?_
        exact z_endI (hret _ _ dX3_lastMapped_31) (by rw [← hX]; rfl) rfl
      · exact absurd (by decide +kernel) h
    | succ q ih =>
      intro hq hX
      rw [nI_pred]
      refine z_iload_n C rfl dX3_lastMapped_8 ?_
      refine z_if_lt (tgt := 30) C dX3_lastMapped_9 (by decide) (fun h => ?_) (fun h => ?_)
      · exact absurd h (nI_pos (by omega))
      · refine z_aload_n C rfl dX3_lastMapped_12 ?_
        refine gf_X3_9 C hk dX3_lastMapped_13 ?_
        refine z_iload_n C rfl dX3_lastMapped_16 ?_
        refine al_E (v := κ (k + 1) q) C hk q rfl (by omega) rfl dX3_lastMapped_17 ?_
        refine z_iconst (v := (-1)) C (by decide +kernel) dX3_lastMapped_18 ?_
        refine z_icmp_eq (tgt := 24) C dX3_lastMapped_19 (by decide) (fun h1 => ?_) (fun h1 => ?_)
        · refine z_iinc (v := nI q - 1) (ls' := [some (.ref (n0 + k)), some (.int (nI q - 1))]) C rfl (by rw [Int32.sub_eq_add_neg]; rfl) (by decide) rfl dX3_lastMapped_24 ?_
          refine z_goto (tgt := 8) C dX3_lastMapped_27 (by decide) ?_
          exact ih (by omega) (by rw [← hX, cLast, if_pos h1])
        · refine z_iload_n C rfl dX3_lastMapped_22 ?_
          exact z_endI (hret _ _ dX3_lastMapped_23) (by rw [← hX, cLast, if_neg h1]) rfl
  refine z_aload_n C rfl dX3_lastMapped_0 ?_
  refine gf_X3_9 C hk dX3_lastMapped_1 ?_
  refine an_E C hk dX3_lastMapped_4 ?_
  refine z_iconst (v := 1) C (by decide +kernel) dX3_lastMapped_5 ?_
  refine z_isub (v := 39) C (by decide +kernel) dX3_lastMapped_6 ?_
  refine z_istore_n (ls' := [some (.ref (n0 + k)), some (.int 39)]) C (by decide) rfl dX3_lastMapped_7 ?_
  exact z_cast (hl 40 (Nat.le_refl _) rfl) rfl ⟨rfl, so_int (by decide +kernel), trivial⟩ rfl
set_option maxHeartbeats 4000000 in
set_option maxRecDepth 100000 in
theorem c_X3_extentOf (l : Launch) (D : DD) (n0 : Nat) (κ μ : KH) (o : Int64) (k q : Nat) (x : Int32) (hk : isV k) (hq : q < 40) (hx : κ (k + 1) q = x) : HM l D n0 yX3_extentOf cX3_extentOf 2 (some .int) 0 0 [.ref (n0 + k), .int (nI q)] (κ, μ, o) (some (.int x)) (κ, μ, o) := by
  refine HM.of (by decide) (by simp [Value.category]) (by simp) (Or.inr (Or.inl ⟨_, .int, rfl, rfl, rfl⟩)) ?_
  intro pp ee ss mm aa bb me cd Q C K hret
  show ZZ pp l ee (rmk 0 0) ss mm aa bb me cd D n0 127 2 0 0 Q _ 0 [some (.ref (n0 + k)), some (.int (nI q))] []
  refine z_iload_n C rfl dX3_extentOf_0 ?_
  refine z_if_lt (tgt := 22) C dX3_extentOf_1 (by decide) (fun h_1 => ?_) (fun h_1 => ?_)
  · exact absurd h_1 (nI_pos (by omega))
  · skip
    refine z_iload_n C rfl dX3_extentOf_4 ?_
    refine z_aload_n C rfl dX3_extentOf_5 ?_
    refine gf_X3_9 C hk dX3_extentOf_6 ?_
    refine an_E C hk dX3_extentOf_9 ?_
    refine z_icmp_ge (tgt := 22) C dX3_extentOf_10 (by decide) (fun h_10 => ?_) (fun h_10 => ?_)
    · have g_10 := cv_le (a := 40) (b := q) (by omega) (by omega) h_10
      exact absurd g_10 (by omega)
    · have g_10 := cv_nle (a := 40) (b := q) (by omega) (by omega) h_10
      refine z_aload_n C rfl dX3_extentOf_13 ?_
      refine gf_X3_9 C hk dX3_extentOf_14 ?_
      refine z_iload_n C rfl dX3_extentOf_17 ?_
      refine al_E (v := x) C hk (q) rfl (by omega) hx dX3_extentOf_18 ?_
      refine z_goto (tgt := 23) C dX3_extentOf_19 (by decide) ?_
      exact z_endI (hret _ _ dX3_extentOf_23) rfl rfl
set_option maxHeartbeats 4000000 in
set_option maxRecDepth 100000 in
theorem c_X3_setExtent (l : Launch) (D : DD) (n0 : Nat) (κ μ : KH) (o : Int64) (k q : Nat) (x : Int32) (hk : isV k) (hq : q < 40) : HM l D n0 yX3_setExtent cX3_setExtent 3 none 0 0 [.ref (n0 + k), .int (nI q), .int x] (κ, μ, o) none (up κ (k + 1) q x, μ, o) := by
  refine HM.of (by decide) (by simp [Value.category]) (by simp) (Or.inl ⟨rfl, rfl⟩) ?_
  intro pp ee ss mm aa bb me cd Q C K hret
  show ZZ pp l ee (rmk 0 0) ss mm aa bb me cd D n0 127 3 0 0 Q _ 0 [some (.ref (n0 + k)), some (.int (nI q)), some (.int x)] []
  refine z_iload_n C rfl dX3_setExtent_0 ?_
  refine z_if_lt (tgt := 20) C dX3_setExtent_1 (by decide) (fun h_1 => ?_) (fun h_1 => ?_)
  · exact absurd h_1 (nI_pos (by omega))
  · skip
    refine z_iload_n C rfl dX3_setExtent_4 ?_
    refine z_aload_n C rfl dX3_setExtent_5 ?_
    refine gf_X3_9 C hk dX3_setExtent_6 ?_
    refine an_E C hk dX3_setExtent_9 ?_
    refine z_icmp_ge (tgt := 20) C dX3_setExtent_10 (by decide) (fun h_10 => ?_) (fun h_10 => ?_)
    · have g_10 := cv_le (a := 40) (b := q) (by omega) (by omega) h_10
      exact absurd g_10 (by omega)
    · have g_10 := cv_nle (a := 40) (b := q) (by omega) (by omega) h_10
      refine z_aload_n C rfl dX3_setExtent_13 ?_
      refine gf_X3_9 C hk dX3_setExtent_14 ?_
      refine z_iload_n C rfl dX3_setExtent_17 ?_
      refine z_iload_n C rfl dX3_setExtent_18 ?_
      refine as_E (x := x) C hk (q) rfl (by omega) dX3_setExtent_19 ?_
      exact z_endV (hret _ _ dX3_setExtent_20) rfl
set_option maxHeartbeats 4000000 in
set_option maxRecDepth 100000 in
theorem c_X3_copy (l : Launch) (D : DD) (n0 : Nat) (κ μ : KH) (o : Int64) (k j : Nat) (hk : isV k) (hj : isV j) (h0 : is01 (κ j 0)) (h1 : is01 (κ j 1)) (hkj : k ≠ j) : HM l D n0 yX3_copy cX3_copy 2 none 1 40 [.ref (n0 + k), .ref (n0 + j)] (κ, μ, o) none (cVc κ k j, μ, o) := by
  refine HM.of (by decide) (by simp [Value.category]) (by simp) (Or.inl ⟨rfl, rfl⟩) ?_
  intro pp ee ss mm aa bb me cd Q C K hret
  show ZZ pp l ee (rmk 1 40) ss mm aa bb me cd D n0 127 2 0 0 Q _ 0 [some (.ref (n0 + k)), some (.ref (n0 + j))] []
  refine z_aload_n C rfl dX3_copy_0 ?_
  refine z_aload_n C rfl dX3_copy_1 ?_
  refine gf_X3_28 (v := κ j 0) C hj rfl dX3_copy_2 ?_
  refine pf_X3_28 (x := κ j 0) C hk h0 dX3_copy_5 ?_
  refine z_aload_n C rfl dX3_copy_8 ?_
  refine z_aload_n C rfl dX3_copy_9 ?_
  refine gf_X3_32 (v := κ j 1) C hj (show _ = κ j 1 by simp [up, hkj, Ne.symm hkj]) dX3_copy_10 ?_
  refine pf_X3_32 (x := κ j 1) C hk h1 dX3_copy_13 ?_
  refine z_aload_n C rfl dX3_copy_16 ?_
  refine z_aload_n C rfl dX3_copy_17 ?_
  refine gf_X3_35 (v := κ j 2) C hj (show _ = κ j 2 by simp [up, hkj, Ne.symm hkj]) dX3_copy_18 ?_
  refine pf_X3_35 (x := κ j 2) C hk dX3_copy_21 ?_
  refine z_aload_n C rfl dX3_copy_24 ?_
  refine z_aload_n C rfl dX3_copy_25 ?_
  refine gf_X3_21 (v := κ j 3) C hj (show _ = κ j 3 by simp [up, hkj, Ne.symm hkj]) dX3_copy_26 ?_
  refine pf_X3_21 (x := κ j 3) C hk dX3_copy_29 ?_
  refine z_aload_n C rfl dX3_copy_32 ?_
  refine z_aload_n C rfl dX3_copy_33 ?_
  refine gf_X3_25 (v := κ j 4) C hj (show _ = κ j 4 by simp [up, hkj, Ne.symm hkj]) dX3_copy_34 ?_
  refine pf_X3_25 (x := κ j 4) C hk dX3_copy_37 ?_
  refine z_aload_n C rfl dX3_copy_40 ?_
  refine z_aload_n C rfl dX3_copy_41 ?_
  refine gf_X3_38 (v := κ j 5) C hj (show _ = κ j 5 by simp [up, hkj, Ne.symm hkj]) dX3_copy_42 ?_
  refine pf_X3_38 (x := κ j 5) C hk dX3_copy_45 ?_
  refine z_aload_n C rfl dX3_copy_48 ?_
  refine gf_X3_9 C hj dX3_copy_49 ?_
  refine z_iconst (v := 0) C (by decide +kernel) dX3_copy_52 ?_
  refine z_aload_n C rfl dX3_copy_53 ?_
  refine gf_X3_9 C hk dX3_copy_54 ?_
  refine z_iconst (v := 0) C (by decide +kernel) dX3_copy_57 ?_
  refine z_bipush (v := 40) C (by decide +kernel) dX3_copy_58 ?_
  refine z_acpy (src := (j + 1)) (dst := (k + 1)) (n := 40) C (enc_E hj) (fun _ => enc_E hk) (isV_l1 hj) (isV_l1 hk) rfl (by decide) (by decide) (by decide) wdx_251 wdx_nat wdx_sta wdx_ini ⟨by decide, by decide +kernel⟩ dX3_copy_60 ?_
  exact z_endV (hret _ _ dX3_copy_63) rfl
set_option maxHeartbeats 4000000 in
set_option maxRecDepth 100000 in
theorem c_X3_clear (l : Launch) (D : DD) (n0 : Nat) (κ μ : KH) (o : Int64) (k : Nat) (hk : isV k) : HM l D n0 yX3_clear cX3_clear 1 none 1 23 [.ref (n0 + k)] (κ, μ, o) none (cVz κ k, μ, o) := by
  refine HM.of (by decide) (by simp [Value.category]) (by simp) (Or.inl ⟨rfl, rfl⟩) ?_
  intro pp ee ss mm aa bb me cd Q C K hret
  show ZZ pp l ee (rmk 1 23) ss mm aa bb me cd D n0 127 1 0 0 Q _ 0 [some (.ref (n0 + k))] []
  refine z_aload_n C rfl dX3_clear_0 ?_
  refine z_iconst (v := 0) C (by decide +kernel) dX3_clear_1 ?_
  refine pf_X3_28 (x := 0) C hk (Or.inl rfl) dX3_clear_2 ?_
  refine z_aload_n C rfl dX3_clear_5 ?_
  refine z_iconst (v := 0) C (by decide +kernel) dX3_clear_6 ?_
  refine pf_X3_32 (x := 0) C hk (Or.inl rfl) dX3_clear_7 ?_
  refine z_aload_n C rfl dX3_clear_10 ?_
  refine z_iconst (v := 0) C (by decide +kernel) dX3_clear_11 ?_
  refine pf_X3_38 (x := 0) C hk dX3_clear_12 ?_
  refine z_aload_n C rfl dX3_clear_15 ?_
  refine gf_X3_9 C hk dX3_clear_16 ?_
  refine z_iconst (v := (-1)) C (by decide +kernel) dX3_clear_19 ?_
  refine z_callS (As := [.ref (n0 + (k + 1)), .int ((-1))]) (r := none) (σ1 := (fil (up (up (up κ k 0 0) k 1 0) k 5 0) (k + 1) ((-1)) 40, μ, o)) (st := []) (st1 := []) C K ok_X3_15 (c_fill l D n0 (up (up (up κ k 0 0) k 1 0) k 5 0) μ o (k + 1) 40 ((-1)) (fun _ => enc_E hk) (isV_l1 hk) (by decide)) rfl ⟨by decide, by decide⟩ ⟨Nat.zero_le _, Nat.zero_le _⟩ (by simp [Value.category]) dX3_clear_20 rfl rfl ?_
  exact z_endV (hret _ _ dX3_clear_23) rfl
set_option maxHeartbeats 4000000 in
set_option maxRecDepth 100000 in
theorem c_X1_put (l : Launch) (D : DD) (n0 : Nat) (κ μ : KH) (o : Int64) (a : Nat) (v w x : Int32) (ha : a < 8) : HM l D n0 yX1_put cX1_put 5 none 0 0 [.ref (n0 + 108), .int (nI a), .int v, .int w, .int x] (κ, μ, o) none (cPut κ a v w x, μ, o) := by
  refine HM.of (by decide) (by simp [Value.category]) (by simp) (Or.inl ⟨rfl, rfl⟩) ?_
  intro pp ee ss mm aa bb me cd Q C K hret
  show ZZ pp l ee (rmk 0 0) ss mm aa bb me cd D n0 127 5 0 0 Q _ 0 [some (.ref (n0 + 108)), some (.int (nI a)), some (.int v), some (.int w), some (.int x)] []
  refine z_iload_n C rfl dX1_put_0 ?_
  refine z_if_lt (tgt := 32) C dX1_put_1 (by decide) (fun h_1 => ?_) (fun h_1 => ?_)
  · exact absurd h_1 (nI_pos (by omega))
  · skip
    refine z_iload_n C rfl dX1_put_4 ?_
    refine z_bipush (v := 8) C (by decide +kernel) dX1_put_5 ?_
    refine z_icmp_ge (tgt := 32) C dX1_put_7 (by decide) (fun h_7 => ?_) (fun h_7 => ?_)
    · have g_7 := cv_le (a := 8) (b := a) (by omega) (by omega) h_7
      exact absurd g_7 (by omega)
    · have g_7 := cv_nle (a := 8) (b := a) (by omega) (by omega) h_7
      refine z_aload_n C rfl dX1_put_10 ?_
      refine gf_X1_9 C dX1_put_11 ?_
      refine z_iload_n C rfl dX1_put_14 ?_
      refine z_iload_n C rfl dX1_put_15 ?_
      refine as_109 (x := v) C (a) rfl (by omega) dX1_put_16 ?_
      refine z_aload_n C rfl dX1_put_17 ?_
      refine gf_X1_15 C dX1_put_18 ?_
      refine z_iload_n C rfl dX1_put_21 ?_
      refine z_iload_n C rfl dX1_put_22 ?_
      refine as_110 (x := w) C (a) rfl (by omega) dX1_put_23 ?_
      refine z_aload_n C rfl dX1_put_24 ?_
      refine gf_X1_18 C dX1_put_25 ?_
      refine z_iload_n C rfl dX1_put_28 ?_
      refine z_iload C rfl dX1_put_29 ?_
      refine as_111 (x := x) C (a) rfl (by omega) dX1_put_31 ?_
      exact z_endV (hret _ _ dX1_put_32) rfl
set_option maxHeartbeats 4000000 in
set_option maxRecDepth 100000 in
theorem c_X1_add (l : Launch) (D : DD) (n0 : Nat) (κ μ : KH) (o : Int64) (n : Nat) (v w x : Int32) (hn : κ 108 0 = nI n) (hn8 : n < 8) : HM l D n0 yX1_add cX1_add 4 (some .boolean) 1 24 [.ref (n0 + 108), .int v, .int w, .int x] (κ, μ, o) (some (.int 1)) (up (cPut κ n v w x) 108 0 (nI (n + 1)), μ, o) := by
  refine HM.of (by decide) (by simp [Value.category]) (by simp) (Or.inr (Or.inl ⟨_, .boolean, rfl, rfl, (by decide +kernel)⟩)) ?_
  intro pp ee ss mm aa bb me cd Q C K hret
  show ZZ pp l ee (rmk 1 24) ss mm aa bb me cd D n0 127 4 0 0 Q _ 0 [some (.ref (n0 + 108)), some (.int v), some (.int w), some (.int x)] []
  refine z_aload_n C rfl dX1_add_0 ?_
  refine gf_X1_21 (v := nI n) C hn dX1_add_1 ?_
  refine z_bipush (v := 8) C (by decide +kernel) dX1_add_4 ?_
  refine z_icmp_lt (tgt := 11) C dX1_add_6 (by decide) (fun h_6 => ?_) (fun h_6 => ?_)
  · have g_6 := cv_lt (a := n) (b := 8) (by omega) (by omega) h_6
    refine z_aload_n C rfl dX1_add_11 ?_
    refine z_aload_n C rfl dX1_add_12 ?_
    refine gf_X1_21 (v := nI n) C hn dX1_add_13 ?_
    refine z_iload_n C rfl dX1_add_16 ?_
    refine z_iload_n C rfl dX1_add_17 ?_
    refine z_iload_n C rfl dX1_add_18 ?_
    refine z_callV (As := [.int (nI n), .int v, .int w, .int x]) (r := none) (σ1 := (cPut κ n v w x, μ, o)) (st := []) (st1 := []) C K ok_X1_25 (c_X1_put l D n0 κ μ o n v w x (by omega)) enc_Q (by decide) rfl rfl ⟨by decide, by decide⟩ ⟨Nat.zero_le _, Nat.zero_le _⟩ (by simp [Value.category]) dX1_add_19 rfl rfl ?_
    refine z_aload_n C rfl dX1_add_22 ?_
    refine z_dup C rfl dX1_add_23 ?_
    refine gf_X1_21 (v := nI n) C ((show cPut κ n v w x 108 0 = κ 108 0 from rfl).trans hn) dX1_add_24 ?_
    refine z_iconst (v := 1) C (by decide +kernel) dX1_add_27 ?_
    refine z_iadd (v := nI (n + 1)) C (cv_add n 1) dX1_add_28 ?_
    refine pf_X1_21 (x := nI (n + 1)) C dX1_add_29 ?_
    refine z_iconst (v := 1) C (by decide +kernel) dX1_add_32 ?_
    exact z_endI (hret _ _ dX1_add_33) rfl rfl
  · have g_6 := cv_nlt (a := n) (b := 8) (by omega) (by omega) h_6
    exact absurd g_6 (by omega)
set_option maxHeartbeats 4000000 in
set_option maxRecDepth 100000 in
theorem c_X1_add_n (l : Launch) (D : DD) (n0 : Nat) (κ μ : KH) (o : Int64) (v w x : Int32) (hn : κ 108 0 = nI 8) : HM l D n0 yX1_add cX1_add 4 (some .boolean) 0 0 [.ref (n0 + 108), .int v, .int w, .int x] (κ, μ, o) (some (.int 0)) (κ, μ, o) := by
  refine HM.of (by decide) (by simp [Value.category]) (by simp) (Or.inr (Or.inl ⟨_, .boolean, rfl, rfl, (by decide +kernel)⟩)) ?_
  intro pp ee ss mm aa bb me cd Q C K hret
  show ZZ pp l ee (rmk 0 0) ss mm aa bb me cd D n0 127 4 0 0 Q _ 0 [some (.ref (n0 + 108)), some (.int v), some (.int w), some (.int x)] []
  refine z_aload_n C rfl dX1_add_0 ?_
  refine gf_X1_21 (v := 8) C hn dX1_add_1 ?_
  refine z_bipush (v := 8) C (by decide +kernel) dX1_add_4 ?_
  refine z_icmp_lt (tgt := 11) C dX1_add_6 (by decide) (fun h_6 => ?_) (fun h_6 => ?_)
  · exact absurd h_6 (by decide +kernel)
  · skip
    refine z_iconst (v := 0) C (by decide +kernel) dX1_add_9 ?_
    exact z_endI (hret _ _ dX1_add_10) rfl rfl
set_option maxHeartbeats 4000000 in
set_option maxRecDepth 100000 in
theorem c_X1_volumeAt (l : Launch) (D : DD) (n0 : Nat) (κ μ : KH) (o : Int64) (n a : Nat) (x : Int32) (hn : κ 108 0 = nI n) (hn8 : n ≤ 8) (ha : a < n) (hx : κ 109 a = x) : HM l D n0 yX1_volumeAt cX1_volumeAt 2 (some .int) 0 0 [.ref (n0 + 108), .int (nI a)] (κ, μ, o) (some (.int x)) (κ, μ, o) := by
  refine HM.of (by decide) (by simp [Value.category]) (by simp) (Or.inr (Or.inl ⟨_, .int, rfl, rfl, rfl⟩)) ?_
  intro pp ee ss mm aa bb me cd Q C K hret
  show ZZ pp l ee (rmk 0 0) ss mm aa bb me cd D n0 127 2 0 0 Q _ 0 [some (.ref (n0 + 108)), some (.int (nI a))] []
  refine z_iload_n C rfl dX1_volumeAt_0 ?_
  refine z_if_lt (tgt := 21) C dX1_volumeAt_1 (by decide) (fun h_1 => ?_) (fun h_1 => ?_)
  · exact absurd h_1 (nI_pos (by omega))
  · skip
    refine z_iload_n C rfl dX1_volumeAt_4 ?_
    refine z_aload_n C rfl dX1_volumeAt_5 ?_
    refine gf_X1_21 (v := nI n) C hn dX1_volumeAt_6 ?_
    refine z_icmp_ge (tgt := 21) C dX1_volumeAt_9 (by decide) (fun h_9 => ?_) (fun h_9 => ?_)
    · have g_9 := cv_le (a := n) (b := a) (by omega) (by omega) h_9
      exact absurd g_9 (by omega)
    · have g_9 := cv_nle (a := n) (b := a) (by omega) (by omega) h_9
      refine z_aload_n C rfl dX1_volumeAt_12 ?_
      refine gf_X1_9 C dX1_volumeAt_13 ?_
      refine z_iload_n C rfl dX1_volumeAt_16 ?_
      refine al_109 (v := x) C (a) rfl (by omega) hx dX1_volumeAt_17 ?_
      refine z_goto (tgt := 22) C dX1_volumeAt_18 (by decide) ?_
      exact z_endI (hret _ _ dX1_volumeAt_22) rfl rfl
set_option maxHeartbeats 4000000 in
set_option maxRecDepth 100000 in
theorem c_X1_wordAt (l : Launch) (D : DD) (n0 : Nat) (κ μ : KH) (o : Int64) (n a : Nat) (x : Int32) (hn : κ 108 0 = nI n) (hn8 : n ≤ 8) (ha : a < n) (hx : κ 110 a = x) : HM l D n0 yX1_wordAt cX1_wordAt 2 (some .int) 0 0 [.ref (n0 + 108), .int (nI a)] (κ, μ, o) (some (.int x)) (κ, μ, o) := by
  refine HM.of (by decide) (by simp [Value.category]) (by simp) (Or.inr (Or.inl ⟨_, .int, rfl, rfl, rfl⟩)) ?_
  intro pp ee ss mm aa bb me cd Q C K hret
  show ZZ pp l ee (rmk 0 0) ss mm aa bb me cd D n0 127 2 0 0 Q _ 0 [some (.ref (n0 + 108)), some (.int (nI a))] []
  refine z_iload_n C rfl dX1_wordAt_0 ?_
  refine z_if_lt (tgt := 21) C dX1_wordAt_1 (by decide) (fun h_1 => ?_) (fun h_1 => ?_)
  · exact absurd h_1 (nI_pos (by omega))
  · skip
    refine z_iload_n C rfl dX1_wordAt_4 ?_
    refine z_aload_n C rfl dX1_wordAt_5 ?_
    refine gf_X1_21 (v := nI n) C hn dX1_wordAt_6 ?_
    refine z_icmp_ge (tgt := 21) C dX1_wordAt_9 (by decide) (fun h_9 => ?_) (fun h_9 => ?_)
    · have g_9 := cv_le (a := n) (b := a) (by omega) (by omega) h_9
      exact absurd g_9 (by omega)
    · have g_9 := cv_nle (a := n) (b := a) (by omega) (by omega) h_9
      refine z_aload_n C rfl dX1_wordAt_12 ?_
      refine gf_X1_15 C dX1_wordAt_13 ?_
      refine z_iload_n C rfl dX1_wordAt_16 ?_
      refine al_110 (v := x) C (a) rfl (by omega) hx dX1_wordAt_17 ?_
      refine z_goto (tgt := 22) C dX1_wordAt_18 (by decide) ?_
      exact z_endI (hret _ _ dX1_wordAt_22) rfl rfl
set_option maxHeartbeats 4000000 in
set_option maxRecDepth 100000 in
theorem c_X1_valueAt (l : Launch) (D : DD) (n0 : Nat) (κ μ : KH) (o : Int64) (n a : Nat) (x : Int32) (hn : κ 108 0 = nI n) (hn8 : n ≤ 8) (ha : a < n) (hx : κ 111 a = x) : HM l D n0 yX1_valueAt cX1_valueAt 2 (some .int) 0 0 [.ref (n0 + 108), .int (nI a)] (κ, μ, o) (some (.int x)) (κ, μ, o) := by
  refine HM.of (by decide) (by simp [Value.category]) (by simp) (Or.inr (Or.inl ⟨_, .int, rfl, rfl, rfl⟩)) ?_
  intro pp ee ss mm aa bb me cd Q C K hret
  show ZZ pp l ee (rmk 0 0) ss mm aa bb me cd D n0 127 2 0 0 Q _ 0 [some (.ref (n0 + 108)), some (.int (nI a))] []
  refine z_iload_n C rfl dX1_valueAt_0 ?_
  refine z_if_lt (tgt := 21) C dX1_valueAt_1 (by decide) (fun h_1 => ?_) (fun h_1 => ?_)
  · exact absurd h_1 (nI_pos (by omega))
  · skip
    refine z_iload_n C rfl dX1_valueAt_4 ?_
    refine z_aload_n C rfl dX1_valueAt_5 ?_
    refine gf_X1_21 (v := nI n) C hn dX1_valueAt_6 ?_
    refine z_icmp_ge (tgt := 21) C dX1_valueAt_9 (by decide) (fun h_9 => ?_) (fun h_9 => ?_)
    · have g_9 := cv_le (a := n) (b := a) (by omega) (by omega) h_9
      exact absurd g_9 (by omega)
    · have g_9 := cv_nle (a := n) (b := a) (by omega) (by omega) h_9
      refine z_aload_n C rfl dX1_valueAt_12 ?_
      refine gf_X1_18 C dX1_valueAt_13 ?_
      refine z_iload_n C rfl dX1_valueAt_16 ?_
      refine al_111 (v := x) C (a) rfl (by omega) hx dX1_valueAt_17 ?_
      refine z_goto (tgt := 22) C dX1_valueAt_18 (by decide) ?_
      exact z_endI (hret _ _ dX1_valueAt_22) rfl rfl
set_option maxHeartbeats 4000000 in
set_option maxRecDepth 100000 in
theorem c_X1_waitsIn (l : Launch) (D : DD) (n0 : Nat) (κ μ : KH) (o : Int64) (n : Nat) (v a b : Int32) (hn : κ 108 0 = nI n) (hn8 : n ≤ 8) : HM l D n0 yX1_waitsIn cX1_waitsIn 6 (some .boolean) 1 21 [.ref (n0 + 108), .int v, .int a, .int b] (κ, μ, o) (some (.int (b2i (cWt κ n v a b)))) (κ, μ, o) := by
  refine HM.of (by decide) (by simp [Value.category]) (by simp) (Or.inr (Or.inl ⟨_, .boolean, rfl, rfl, (b2i_nar _)⟩)) ?_
  intro pp ee ss mm aa bb me cd Q C K hret
  show ZZ pp l ee (rmk 1 21) ss mm aa bb me cd D n0 127 6 0 0 Q _ 0 [some (.ref (n0 + 108)), some (.int v), some (.int a), some (.int b), none, none] []
  refine z_iconst (v := 0) C (by decide +kernel) dX1_waitsIn_0 ?_
  refine z_istore (ls' := [some (.ref (n0 + 108)), some (.int v), some (.int a), some (.int b), some (.int 0), none]) C (by decide) rfl dX1_waitsIn_1 ?_
  refine z_cast (σ1 := (κ, μ, o)) (ls' := [some (.ref (n0 + 108)), some (.int v), some (.int a), some (.int b), some (.int (nI 0)), none]) (st' := []) (z_for (P := fun i => anyTo (cW1 κ v a b) i = false → ZZ pp l ee (rmk 1 21) ss mm aa bb me cd D n0 127 6 0 0 Q (κ, μ, o) 3 [some (.ref (n0 + 108)), some (.int v), some (.int a), some (.int b), some (.int (nI i)), none] []) (n) ?_ ?_ 0 (Nat.zero_le _) rfl) rfl ⟨rfl, rfl, rfl, rfl, rfl, trivial⟩ rfl
  · intro hinv_3
    refine z_iload C rfl dX1_waitsIn_3 ?_
    refine z_aload_n C rfl dX1_waitsIn_5 ?_
    refine gf_X1_21 (v := nI n) C hn dX1_waitsIn_6 ?_
    refine z_icmp_ge (tgt := 52) C dX1_waitsIn_9 (by decide) (fun h_9 => ?_) (fun h_9 => ?_)
    · have g_9 := cv_le (a := n) (b := n) (by omega) (by omega) h_9
      refine z_iconst (v := 0) C (by decide +kernel) dX1_waitsIn_52 ?_
      exact z_endI (hret _ _ dX1_waitsIn_53) (b2i_0 hinv_3) rfl
    · have g_9 := cv_nle (a := n) (b := n) (by omega) (by omega) h_9
      exact absurd g_9 (by omega)
  · intro i hi_3 ih_3 hinv_3
    refine z_iload C rfl dX1_waitsIn_3 ?_
    refine z_aload_n C rfl dX1_waitsIn_5 ?_
    refine gf_X1_21 (v := nI n) C hn dX1_waitsIn_6 ?_
    refine z_icmp_ge (tgt := 52) C dX1_waitsIn_9 (by decide) (fun h_9 => ?_) (fun h_9 => ?_)
    · have g_9 := cv_le (a := n) (b := i) (by omega) (by omega) h_9
      exact absurd hi_3 (by omega)
    · have g_9 := cv_nle (a := n) (b := i) (by omega) (by omega) h_9
      refine z_aload_n C rfl dX1_waitsIn_12 ?_
      refine z_iload C rfl dX1_waitsIn_13 ?_
      refine z_callV (As := [.int (nI i)]) (r := (some (.int (κ 110 i)))) (σ1 := (κ, μ, o)) (st := []) (st1 := [.int (κ 110 i)]) C K ok_X1_29 (c_X1_wordAt l D n0 κ μ o n i (κ 110 i) hn (by omega) (by omega) rfl) enc_Q (by decide) rfl rfl ⟨by decide, by decide⟩ ⟨Nat.zero_le _, Nat.zero_le _⟩ (by simp [Value.category]) dX1_waitsIn_15 rfl rfl ?_
      refine z_iconst (v := 4) C (by decide +kernel) dX1_waitsIn_18 ?_
      refine z_idiv (v := (κ 110 i) / 4) C (by decide +kernel) rfl dX1_waitsIn_19 ?_
      refine z_istore (ls' := [some (.ref (n0 + 108)), some (.int v), some (.int a), some (.int b), some (.int (nI i)), some (.int ((κ 110 i) / 4))]) C (by decide) rfl dX1_waitsIn_20 ?_
      refine z_aload_n C rfl dX1_waitsIn_22 ?_
      refine z_iload C rfl dX1_waitsIn_23 ?_
      refine z_callV (As := [.int (nI i)]) (r := (some (.int (κ 109 i)))) (σ1 := (κ, μ, o)) (st := []) (st1 := [.int (κ 109 i)]) C K ok_X1_33 (c_X1_volumeAt l D n0 κ μ o n i (κ 109 i) hn (by omega) (by omega) rfl) enc_Q (by decide) rfl rfl ⟨by decide, by decide⟩ ⟨Nat.zero_le _, Nat.zero_le _⟩ (by simp [Value.category]) dX1_waitsIn_25 rfl rfl ?_
      refine z_iload_n C rfl dX1_waitsIn_28 ?_
      refine z_icmp_ne (tgt := 46) C dX1_waitsIn_29 (by decide) (fun h_29 => ?_) (fun h_29 => ?_)
      · skip
        refine z_iinc (v := nI (i + 1)) (ls' := [some (.ref (n0 + 108)), some (.int v), some (.int a), some (.int b), some (.int (nI (i + 1))), some (.int ((κ 110 i) / 4))]) C rfl (cv_inc i 1) (by decide) rfl dX1_waitsIn_46 ?_
        refine z_goto (tgt := 3) C dX1_waitsIn_49 (by decide) ?_
        exact z_cast (σ1 := (κ, μ, o)) (ls' := [some (.ref (n0 + 108)), some (.int v), some (.int a), some (.int b), some (.int (nI (i + 1))), none]) (st' := []) (ih_3 (by rw [anyTo, hinv_3]; simp [cW1, h_29])) rfl ⟨rfl, rfl, rfl, rfl, rfl, trivial⟩ rfl
      · skip
        refine z_iload C rfl dX1_waitsIn_32 ?_
        refine z_iload_n C rfl dX1_waitsIn_34 ?_
        refine z_icmp_lt (tgt := 46) C dX1_waitsIn_35 (by decide) (fun h_35 => ?_) (fun h_35 => ?_)
        · skip
          refine z_iinc (v := nI (i + 1)) (ls' := [some (.ref (n0 + 108)), some (.int v), some (.int a), some (.int b), some (.int (nI (i + 1))), some (.int ((κ 110 i) / 4))]) C rfl (cv_inc i 1) (by decide) rfl dX1_waitsIn_46 ?_
          refine z_goto (tgt := 3) C dX1_waitsIn_49 (by decide) ?_
          exact z_cast (σ1 := (κ, μ, o)) (ls' := [some (.ref (n0 + 108)), some (.int v), some (.int a), some (.int b), some (.int (nI (i + 1))), none]) (st' := []) (ih_3 (by rw [anyTo, hinv_3]; simp [cW1, Int32.not_le.mpr h_35])) rfl ⟨rfl, rfl, rfl, rfl, rfl, trivial⟩ rfl
        · skip
          refine z_iload C rfl dX1_waitsIn_38 ?_
          refine z_iload_n C rfl dX1_waitsIn_40 ?_
          refine z_icmp_ge (tgt := 46) C dX1_waitsIn_41 (by decide) (fun h_41 => ?_) (fun h_41 => ?_)
          · skip
            refine z_iinc (v := nI (i + 1)) (ls' := [some (.ref (n0 + 108)), some (.int v), some (.int a), some (.int b), some (.int (nI (i + 1))), some (.int ((κ 110 i) / 4))]) C rfl (cv_inc i 1) (by decide) rfl dX1_waitsIn_46 ?_
            refine z_goto (tgt := 3) C dX1_waitsIn_49 (by decide) ?_
            exact z_cast (σ1 := (κ, μ, o)) (ls' := [some (.ref (n0 + 108)), some (.int v), some (.int a), some (.int b), some (.int (nI (i + 1))), none]) (st' := []) (ih_3 (by rw [anyTo, hinv_3]; simp [cW1, Int32.not_lt.mpr h_41])) rfl ⟨rfl, rfl, rfl, rfl, rfl, trivial⟩ rfl
          · skip
            refine z_iconst (v := 1) C (by decide +kernel) dX1_waitsIn_44 ?_
            exact z_endI (hret _ _ dX1_waitsIn_45) (b2i_1 (anyTo_t (i := i) (by simp [cW1, h_29, Int32.not_lt.mp h_35, Int32.not_le.mp h_41]) n (by omega))) rfl
set_option maxHeartbeats 4000000 in
set_option maxRecDepth 100000 in
theorem c_X1_countOf (l : Launch) (D : DD) (n0 : Nat) (κ μ : KH) (o : Int64) (n : Nat) (v : Int32) (hn : κ 108 0 = nI n) (hn8 : n ≤ 8) : HM l D n0 yX1_countOf cX1_countOf 4 (some .int) 1 21 [.ref (n0 + 108), .int v] (κ, μ, o) (some (.int (nI (sumTo (cQ1 κ v) n)))) (κ, μ, o) := by
  refine HM.of (by decide) (by simp [Value.category]) (by simp) (Or.inr (Or.inl ⟨_, .int, rfl, rfl, rfl⟩)) ?_
  intro pp ee ss mm aa bb me cd Q C K hret
  show ZZ pp l ee (rmk 1 21) ss mm aa bb me cd D n0 127 4 0 0 Q _ 0 [some (.ref (n0 + 108)), some (.int v), none, none] []
  refine z_iconst (v := 0) C (by decide +kernel) dX1_countOf_0 ?_
  refine z_istore_n (ls' := [some (.ref (n0 + 108)), some (.int v), some (.int 0), none]) C (by decide) rfl dX1_countOf_1 ?_
  refine z_iconst (v := 0) C (by decide +kernel) dX1_countOf_2 ?_
  refine z_istore_n (ls' := [some (.ref (n0 + 108)), some (.int v), some (.int 0), some (.int 0)]) C (by decide) rfl dX1_countOf_3 ?_
  refine z_cast (σ1 := (κ, μ, o)) (ls' := [some (.ref (n0 + 108)), some (.int v), some (.int (nI (sumTo (cQ1 κ v) 0))), some (.int (nI 0))]) (st' := []) (z_for (P := fun i => ZZ pp l ee (rmk 1 21) ss mm aa bb me cd D n0 127 4 0 0 Q (κ, μ, o) 4 [some (.ref (n0 + 108)), some (.int v), some (.int (nI (sumTo (cQ1 κ v) i))), some (.int (nI i))] []) (n) ?_ ?_ 0 (Nat.zero_le _)) rfl ⟨rfl, rfl, (so_int rfl), rfl, trivial⟩ rfl
  · skip
    refine z_iload_n C rfl dX1_countOf_4 ?_
    refine z_aload_n C rfl dX1_countOf_5 ?_
    refine gf_X1_21 (v := nI n) C hn dX1_countOf_6 ?_
    refine z_icmp_ge (tgt := 30) C dX1_countOf_9 (by decide) (fun h_9 => ?_) (fun h_9 => ?_)
    · have g_9 := cv_le (a := n) (b := n) (by omega) (by omega) h_9
      refine z_iload_n C rfl dX1_countOf_30 ?_
      exact z_endI (hret _ _ dX1_countOf_31) rfl rfl
    · have g_9 := cv_nle (a := n) (b := n) (by omega) (by omega) h_9
      exact absurd g_9 (by omega)
  · intro i hi_4 ih_4
    refine z_iload_n C rfl dX1_countOf_4 ?_
    refine z_aload_n C rfl dX1_countOf_5 ?_
    refine gf_X1_21 (v := nI n) C hn dX1_countOf_6 ?_
    refine z_icmp_ge (tgt := 30) C dX1_countOf_9 (by decide) (fun h_9 => ?_) (fun h_9 => ?_)
    · have g_9 := cv_le (a := n) (b := i) (by omega) (by omega) h_9
      exact absurd hi_4 (by omega)
    · have g_9 := cv_nle (a := n) (b := i) (by omega) (by omega) h_9
      refine z_aload_n C rfl dX1_countOf_12 ?_
      refine z_iload_n C rfl dX1_countOf_13 ?_
      refine z_callV (As := [.int (nI i)]) (r := (some (.int (κ 109 i)))) (σ1 := (κ, μ, o)) (st := []) (st1 := [.int (κ 109 i)]) C K ok_X1_33 (c_X1_volumeAt l D n0 κ μ o n i (κ 109 i) hn (by omega) (by omega) rfl) enc_Q (by decide) rfl rfl ⟨by decide, by decide⟩ ⟨Nat.zero_le _, Nat.zero_le _⟩ (by simp [Value.category]) dX1_countOf_14 rfl rfl ?_
      refine z_iload_n C rfl dX1_countOf_17 ?_
      refine z_icmp_ne (tgt := 24) C dX1_countOf_18 (by decide) (fun h_18 => ?_) (fun h_18 => ?_)
      · skip
        refine z_iinc (v := nI (i + 1)) (ls' := [some (.ref (n0 + 108)), some (.int v), some (.int (nI (sumTo (cQ1 κ v) i))), some (.int (nI (i + 1)))]) C rfl (cv_inc i 1) (by decide) rfl dX1_countOf_24 ?_
        refine z_goto (tgt := 4) C dX1_countOf_27 (by decide) ?_
        exact z_cast (σ1 := (κ, μ, o)) (ls' := [some (.ref (n0 + 108)), some (.int v), some (.int (nI (sumTo (cQ1 κ v) (i + 1)))), some (.int (nI (i + 1)))]) (st' := []) (ih_4) rfl ⟨rfl, rfl, (so_int (by simp [sumTo, cQ1, h_18])), rfl, trivial⟩ rfl
      · skip
        refine z_iinc (v := nI (sumTo (cQ1 κ v) i + 1)) (ls' := [some (.ref (n0 + 108)), some (.int v), some (.int (nI (sumTo (cQ1 κ v) i + 1))), some (.int (nI i))]) C rfl (cv_inc (sumTo (cQ1 κ v) i) 1) (by decide) rfl dX1_countOf_21 ?_
        refine z_iinc (v := nI (i + 1)) (ls' := [some (.ref (n0 + 108)), some (.int v), some (.int (nI (sumTo (cQ1 κ v) i + 1))), some (.int (nI (i + 1)))]) C rfl (cv_inc i 1) (by decide) rfl dX1_countOf_24 ?_
        refine z_goto (tgt := 4) C dX1_countOf_27 (by decide) ?_
        exact z_cast (σ1 := (κ, μ, o)) (ls' := [some (.ref (n0 + 108)), some (.int v), some (.int (nI (sumTo (cQ1 κ v) (i + 1)))), some (.int (nI (i + 1)))]) (st' := []) (ih_4) rfl ⟨rfl, rfl, (so_int (by simp [sumTo, cQ1, h_18])), rfl, trivial⟩ rfl
set_option maxHeartbeats 4000000 in
set_option maxRecDepth 100000 in
theorem c_X1_removeFirst (l : Launch) (D : DD) (n0 : Nat) (κ μ : KH) (o : Int64) (n : Nat) (hn : κ 108 0 = nI (n + 1)) (hn8 : n < 8) : HM l D n0 yX1_removeFirst cX1_removeFirst 2 none 1 24 [.ref (n0 + 108)] (κ, μ, o) none (cUq κ n, μ, o) := by
  refine HM.of (by decide) (by simp [Value.category]) (by simp) (Or.inl ⟨rfl, rfl⟩) ?_
  intro pp ee ss mm aa bb me cd Q C K hret
  show ZZ pp l ee (rmk 1 24) ss mm aa bb me cd D n0 127 2 0 0 Q _ 0 [some (.ref (n0 + 108)), none] []
  refine z_iconst (v := 1) C (by decide +kernel) dX1_removeFirst_0 ?_
  refine z_istore_n (ls' := [some (.ref (n0 + 108)), some (.int 1)]) C (by decide) rfl dX1_removeFirst_1 ?_
  refine z_cast (σ1 := (iterK cSh 0 κ, μ, o)) (ls' := [some (.ref (n0 + 108)), some (.int (nI 1))]) (st' := []) (z_for (P := fun i => ZZ pp l ee (rmk 1 24) ss mm aa bb me cd D n0 127 2 0 0 Q (iterK cSh i κ, μ, o) 2 [some (.ref (n0 + 108)), some (.int (nI (i + 1)))] []) (n) ?_ ?_ 0 (Nat.zero_le _)) rfl ⟨rfl, rfl, trivial⟩ rfl
  · skip
    refine z_iload_n C rfl dX1_removeFirst_2 ?_
    refine z_aload_n C rfl dX1_removeFirst_3 ?_
    refine gf_X1_21 (v := nI (n + 1)) C ((congrFun (cSh_o κ 108 (by decide) (by decide) (by decide) n) 0).trans hn) dX1_removeFirst_4 ?_
    refine z_icmp_ge (tgt := 38) C dX1_removeFirst_7 (by decide) (fun h_7 => ?_) (fun h_7 => ?_)
    · have g_7 := cv_le (a := n + 1) (b := n + 1) (by omega) (by omega) h_7
      refine z_aload_n C rfl dX1_removeFirst_38 ?_
      refine gf_X1_21 (v := nI (n + 1)) C ((congrFun (cSh_o κ 108 (by decide) (by decide) (by decide) n) 0).trans hn) dX1_removeFirst_39 ?_
      refine z_if_le (tgt := 55) C dX1_removeFirst_42 (by decide) (fun h_42 => ?_) (fun h_42 => ?_)
      · have g_42 := cv_le (a := n + 1) (b := 0) (by omega) (by omega) h_42
        exact absurd g_42 (by omega)
      · have g_42 := cv_nle (a := n + 1) (b := 0) (by omega) (by omega) h_42
        refine z_aload_n C rfl dX1_removeFirst_45 ?_
        refine z_dup C rfl dX1_removeFirst_46 ?_
        refine gf_X1_21 (v := nI (n + 1)) C ((congrFun (cSh_o κ 108 (by decide) (by decide) (by decide) n) 0).trans hn) dX1_removeFirst_47 ?_
        refine z_iconst (v := 1) C (by decide +kernel) dX1_removeFirst_50 ?_
        refine z_isub (v := nI n) C (nI_pred n) dX1_removeFirst_51 ?_
        refine pf_X1_21 (x := nI n) C dX1_removeFirst_52 ?_
        exact z_endV (hret _ _ dX1_removeFirst_55) rfl
    · have g_7 := cv_nle (a := n + 1) (b := n + 1) (by omega) (by omega) h_7
      exact absurd g_7 (by omega)
  · intro i hi_2 ih_2
    refine z_iload_n C rfl dX1_removeFirst_2 ?_
    refine z_aload_n C rfl dX1_removeFirst_3 ?_
    refine gf_X1_21 (v := nI (n + 1)) C ((congrFun (cSh_o κ 108 (by decide) (by decide) (by decide) i) 0).trans hn) dX1_removeFirst_4 ?_
    refine z_icmp_ge (tgt := 38) C dX1_removeFirst_7 (by decide) (fun h_7 => ?_) (fun h_7 => ?_)
    · have g_7 := cv_le (a := n + 1) (b := i + 1) (by omega) (by omega) h_7
      exact absurd hi_2 (by omega)
    · have g_7 := cv_nle (a := n + 1) (b := i + 1) (by omega) (by omega) h_7
      refine z_aload_n C rfl dX1_removeFirst_10 ?_
      refine z_iload_n C rfl dX1_removeFirst_11 ?_
      refine z_iconst (v := 1) C (by decide +kernel) dX1_removeFirst_12 ?_
      refine z_isub (v := nI i) C (nI_pred i) dX1_removeFirst_13 ?_
      refine z_aload_n C rfl dX1_removeFirst_14 ?_
      refine z_iload_n C rfl dX1_removeFirst_15 ?_
      refine z_callV (As := [.int (nI (i + 1))]) (r := (some (.int ((iterK cSh i κ) 109 (i + 1))))) (σ1 := (iterK cSh i κ, μ, o)) (st := [.int (nI i), .ref (n0 + 108)]) (st1 := [.int ((iterK cSh i κ) 109 (i + 1)), .int (nI i), .ref (n0 + 108)]) C K ok_X1_33 (c_X1_volumeAt l D n0 (iterK cSh i κ) μ o (n + 1) (i + 1) ((iterK cSh i κ) 109 (i + 1)) ((congrFun (cSh_o κ 108 (by decide) (by decide) (by decide) i) 0).trans hn) (by omega) (by omega) rfl) enc_Q (by decide) rfl rfl ⟨by decide, by decide⟩ ⟨Nat.zero_le _, Nat.zero_le _⟩ (by simp [Value.category]) dX1_removeFirst_16 rfl rfl ?_
      refine z_aload_n C rfl dX1_removeFirst_19 ?_
      refine z_iload_n C rfl dX1_removeFirst_20 ?_
      refine z_callV (As := [.int (nI (i + 1))]) (r := (some (.int ((iterK cSh i κ) 110 (i + 1))))) (σ1 := (iterK cSh i κ, μ, o)) (st := [.int ((iterK cSh i κ) 109 (i + 1)), .int (nI i), .ref (n0 + 108)]) (st1 := [.int ((iterK cSh i κ) 110 (i + 1)), .int ((iterK cSh i κ) 109 (i + 1)), .int (nI i), .ref (n0 + 108)]) C K ok_X1_29 (c_X1_wordAt l D n0 (iterK cSh i κ) μ o (n + 1) (i + 1) ((iterK cSh i κ) 110 (i + 1)) ((congrFun (cSh_o κ 108 (by decide) (by decide) (by decide) i) 0).trans hn) (by omega) (by omega) rfl) enc_Q (by decide) rfl rfl ⟨by decide, by decide⟩ ⟨Nat.zero_le _, Nat.zero_le _⟩ (by simp [Value.category]) dX1_removeFirst_21 rfl rfl ?_
      refine z_aload_n C rfl dX1_removeFirst_24 ?_
      refine z_iload_n C rfl dX1_removeFirst_25 ?_
      refine z_callV (As := [.int (nI (i + 1))]) (r := (some (.int ((iterK cSh i κ) 111 (i + 1))))) (σ1 := (iterK cSh i κ, μ, o)) (st := [.int ((iterK cSh i κ) 110 (i + 1)), .int ((iterK cSh i κ) 109 (i + 1)), .int (nI i), .ref (n0 + 108)]) (st1 := [.int ((iterK cSh i κ) 111 (i + 1)), .int ((iterK cSh i κ) 110 (i + 1)), .int ((iterK cSh i κ) 109 (i + 1)), .int (nI i), .ref (n0 + 108)]) C K ok_X1_36 (c_X1_valueAt l D n0 (iterK cSh i κ) μ o (n + 1) (i + 1) ((iterK cSh i κ) 111 (i + 1)) ((congrFun (cSh_o κ 108 (by decide) (by decide) (by decide) i) 0).trans hn) (by omega) (by omega) rfl) enc_Q (by decide) rfl rfl ⟨by decide, by decide⟩ ⟨Nat.zero_le _, Nat.zero_le _⟩ (by simp [Value.category]) dX1_removeFirst_26 rfl rfl ?_
      refine z_callV (As := [.int (nI i), .int ((iterK cSh i κ) 109 (i + 1)), .int ((iterK cSh i κ) 110 (i + 1)), .int ((iterK cSh i κ) 111 (i + 1))]) (r := none) (σ1 := (cPut (iterK cSh i κ) i ((iterK cSh i κ) 109 (i + 1)) ((iterK cSh i κ) 110 (i + 1)) ((iterK cSh i κ) 111 (i + 1)), μ, o)) (st := []) (st1 := []) C K ok_X1_25 (c_X1_put l D n0 (iterK cSh i κ) μ o i ((iterK cSh i κ) 109 (i + 1)) ((iterK cSh i κ) 110 (i + 1)) ((iterK cSh i κ) 111 (i + 1)) (by omega)) enc_Q (by decide) rfl rfl ⟨by decide, by decide⟩ ⟨Nat.zero_le _, Nat.zero_le _⟩ (by simp [Value.category]) dX1_removeFirst_29 rfl rfl ?_
      refine z_iinc (v := nI (i + 1 + 1)) (ls' := [some (.ref (n0 + 108)), some (.int (nI (i + 1 + 1)))]) C rfl (cv_inc (i + 1) 1) (by decide) rfl dX1_removeFirst_32 ?_
      refine z_goto (tgt := 2) C dX1_removeFirst_35 (by decide) ?_
      exact z_cast (σ1 := (iterK cSh (i + 1) κ, μ, o)) (ls' := [some (.ref (n0 + 108)), some (.int (nI (i + 1 + 1)))]) (st' := []) (ih_2) rfl ⟨rfl, rfl, trivial⟩ rfl
set_option maxHeartbeats 4000000 in
set_option maxRecDepth 100000 in
theorem c_X1_removeAllOf (l : Launch) (D : DD) (n0 : Nat) (κ μ : KH) (o : Int64) (n : Nat) (v : Int32) (hn : κ 108 0 = nI n) (hn8 : n ≤ 8) : HM l D n0 yX1_removeAllOf cX1_removeAllOf 4 (some .int) 1 24 [.ref (n0 + 108), .int v] (κ, μ, o) (some (.int (nI (n - (cRm κ v n).2)))) (up (cRm κ v n).1 108 0 (nI (cRm κ v n).2), μ, o) := by
  refine HM.of (by decide) (by simp [Value.category]) (by simp) (Or.inr (Or.inl ⟨_, .int, rfl, rfl, rfl⟩)) ?_
  intro pp ee ss mm aa bb me cd Q C K hret
  show ZZ pp l ee (rmk 1 24) ss mm aa bb me cd D n0 127 4 0 0 Q _ 0 [some (.ref (n0 + 108)), some (.int v), none, none] []
  refine z_iconst (v := 0) C (by decide +kernel) dX1_removeAllOf_0 ?_
  refine z_istore_n (ls' := [some (.ref (n0 + 108)), some (.int v), some (.int 0), none]) C (by decide) rfl dX1_removeAllOf_1 ?_
  refine z_iconst (v := 0) C (by decide +kernel) dX1_removeAllOf_2 ?_
  refine z_istore_n (ls' := [some (.ref (n0 + 108)), some (.int v), some (.int 0), some (.int 0)]) C (by decide) rfl dX1_removeAllOf_3 ?_
  refine z_cast (σ1 := ((cRm κ v 0).1, μ, o)) (ls' := [some (.ref (n0 + 108)), some (.int v), some (.int (nI ((cRm κ v 0).2))), some (.int (nI 0))]) (st' := []) (z_for (P := fun i => ZZ pp l ee (rmk 1 24) ss mm aa bb me cd D n0 127 4 0 0 Q ((cRm κ v i).1, μ, o) 4 [some (.ref (n0 + 108)), some (.int v), some (.int (nI ((cRm κ v i).2))), some (.int (nI i))] []) (n) ?_ ?_ 0 (Nat.zero_le _)) rfl ⟨rfl, rfl, (so_int rfl), rfl, trivial⟩ rfl
  · skip
    have hkn := cRm_le κ v n
    refine z_iload_n C rfl dX1_removeAllOf_4 ?_
    refine z_aload_n C rfl dX1_removeAllOf_5 ?_
    refine gf_X1_21 (v := nI n) C ((congrFun (cRm_o κ v 108 (by decide) (by decide) (by decide) n) 0).trans hn) dX1_removeAllOf_6 ?_
    refine z_icmp_ge (tgt := 50) C dX1_removeAllOf_9 (by decide) (fun h_9 => ?_) (fun h_9 => ?_)
    · have g_9 := cv_le (a := n) (b := n) (by omega) (by omega) h_9
      refine z_aload_n C rfl dX1_removeAllOf_50 ?_
      refine gf_X1_21 (v := nI n) C ((congrFun (cRm_o κ v 108 (by decide) (by decide) (by decide) n) 0).trans hn) dX1_removeAllOf_51 ?_
      refine z_iload_n C rfl dX1_removeAllOf_54 ?_
      refine z_isub (v := nI (n - (cRm κ v n).2)) C (cv_sub (by omega)) dX1_removeAllOf_55 ?_
      refine z_istore_n (ls' := [some (.ref (n0 + 108)), some (.int v), some (.int (nI ((cRm κ v n).2))), some (.int (nI (n - (cRm κ v n).2)))]) C (by decide) rfl dX1_removeAllOf_56 ?_
      refine z_aload_n C rfl dX1_removeAllOf_57 ?_
      refine z_iload_n C rfl dX1_removeAllOf_58 ?_
      refine pf_X1_21 (x := nI ((cRm κ v n).2)) C dX1_removeAllOf_59 ?_
      refine z_iload_n C rfl dX1_removeAllOf_62 ?_
      exact z_endI (hret _ _ dX1_removeAllOf_63) rfl rfl
    · have g_9 := cv_nle (a := n) (b := n) (by omega) (by omega) h_9
      exact absurd g_9 (by omega)
  · intro i hi_4 ih_4
    have hki := cRm_le κ v i
    refine z_iload_n C rfl dX1_removeAllOf_4 ?_
    refine z_aload_n C rfl dX1_removeAllOf_5 ?_
    refine gf_X1_21 (v := nI n) C ((congrFun (cRm_o κ v 108 (by decide) (by decide) (by decide) i) 0).trans hn) dX1_removeAllOf_6 ?_
    refine z_icmp_ge (tgt := 50) C dX1_removeAllOf_9 (by decide) (fun h_9 => ?_) (fun h_9 => ?_)
    · have g_9 := cv_le (a := n) (b := i) (by omega) (by omega) h_9
      exact absurd hi_4 (by omega)
    · have g_9 := cv_nle (a := n) (b := i) (by omega) (by omega) h_9
      refine z_aload_n C rfl dX1_removeAllOf_12 ?_
      refine z_iload_n C rfl dX1_removeAllOf_13 ?_
      refine z_callV (As := [.int (nI i)]) (r := (some (.int (((cRm κ v i).1) 109 i)))) (σ1 := ((cRm κ v i).1, μ, o)) (st := []) (st1 := [.int (((cRm κ v i).1) 109 i)]) C K ok_X1_33 (c_X1_volumeAt l D n0 ((cRm κ v i).1) μ o n i (((cRm κ v i).1) 109 i) ((congrFun (cRm_o κ v 108 (by decide) (by decide) (by decide) i) 0).trans hn) (by omega) (by omega) rfl) enc_Q (by decide) rfl rfl ⟨by decide, by decide⟩ ⟨Nat.zero_le _, Nat.zero_le _⟩ (by simp [Value.category]) dX1_removeAllOf_14 rfl rfl ?_
      refine z_iload_n C rfl dX1_removeAllOf_17 ?_
      refine z_icmp_eq (tgt := 44) C dX1_removeAllOf_18 (by decide) (fun h_18 => ?_) (fun h_18 => ?_)
      · skip
        refine z_iinc (v := nI (i + 1)) (ls' := [some (.ref (n0 + 108)), some (.int v), some (.int (nI ((cRm κ v i).2))), some (.int (nI (i + 1)))]) C rfl (cv_inc i 1) (by decide) rfl dX1_removeAllOf_44 ?_
        refine z_goto (tgt := 4) C dX1_removeAllOf_47 (by decide) ?_
        exact z_cast (σ1 := ((cRm κ v (i + 1)).1, μ, o)) (ls' := [some (.ref (n0 + 108)), some (.int v), some (.int (nI ((cRm κ v (i + 1)).2))), some (.int (nI (i + 1)))]) (st' := []) (ih_4) (st_k (by rw [cRm, if_pos h_18])) ⟨rfl, rfl, (so_int (by rw [cRm, if_pos h_18])), rfl, trivial⟩ rfl
      · skip
        refine z_aload_n C rfl dX1_removeAllOf_21 ?_
        refine z_iload_n C rfl dX1_removeAllOf_22 ?_
        refine z_aload_n C rfl dX1_removeAllOf_23 ?_
        refine z_iload_n C rfl dX1_removeAllOf_24 ?_
        refine z_callV (As := [.int (nI i)]) (r := (some (.int (((cRm κ v i).1) 109 i)))) (σ1 := ((cRm κ v i).1, μ, o)) (st := [.int (nI ((cRm κ v i).2)), .ref (n0 + 108)]) (st1 := [.int (((cRm κ v i).1) 109 i), .int (nI ((cRm κ v i).2)), .ref (n0 + 108)]) C K ok_X1_33 (c_X1_volumeAt l D n0 ((cRm κ v i).1) μ o n i (((cRm κ v i).1) 109 i) ((congrFun (cRm_o κ v 108 (by decide) (by decide) (by decide) i) 0).trans hn) (by omega) (by omega) rfl) enc_Q (by decide) rfl rfl ⟨by decide, by decide⟩ ⟨Nat.zero_le _, Nat.zero_le _⟩ (by simp [Value.category]) dX1_removeAllOf_25 rfl rfl ?_
        refine z_aload_n C rfl dX1_removeAllOf_28 ?_
        refine z_iload_n C rfl dX1_removeAllOf_29 ?_
        refine z_callV (As := [.int (nI i)]) (r := (some (.int (((cRm κ v i).1) 110 i)))) (σ1 := ((cRm κ v i).1, μ, o)) (st := [.int (((cRm κ v i).1) 109 i), .int (nI ((cRm κ v i).2)), .ref (n0 + 108)]) (st1 := [.int (((cRm κ v i).1) 110 i), .int (((cRm κ v i).1) 109 i), .int (nI ((cRm κ v i).2)), .ref (n0 + 108)]) C K ok_X1_29 (c_X1_wordAt l D n0 ((cRm κ v i).1) μ o n i (((cRm κ v i).1) 110 i) ((congrFun (cRm_o κ v 108 (by decide) (by decide) (by decide) i) 0).trans hn) (by omega) (by omega) rfl) enc_Q (by decide) rfl rfl ⟨by decide, by decide⟩ ⟨Nat.zero_le _, Nat.zero_le _⟩ (by simp [Value.category]) dX1_removeAllOf_30 rfl rfl ?_
        refine z_aload_n C rfl dX1_removeAllOf_33 ?_
        refine z_iload_n C rfl dX1_removeAllOf_34 ?_
        refine z_callV (As := [.int (nI i)]) (r := (some (.int (((cRm κ v i).1) 111 i)))) (σ1 := ((cRm κ v i).1, μ, o)) (st := [.int (((cRm κ v i).1) 110 i), .int (((cRm κ v i).1) 109 i), .int (nI ((cRm κ v i).2)), .ref (n0 + 108)]) (st1 := [.int (((cRm κ v i).1) 111 i), .int (((cRm κ v i).1) 110 i), .int (((cRm κ v i).1) 109 i), .int (nI ((cRm κ v i).2)), .ref (n0 + 108)]) C K ok_X1_36 (c_X1_valueAt l D n0 ((cRm κ v i).1) μ o n i (((cRm κ v i).1) 111 i) ((congrFun (cRm_o κ v 108 (by decide) (by decide) (by decide) i) 0).trans hn) (by omega) (by omega) rfl) enc_Q (by decide) rfl rfl ⟨by decide, by decide⟩ ⟨Nat.zero_le _, Nat.zero_le _⟩ (by simp [Value.category]) dX1_removeAllOf_35 rfl rfl ?_
        refine z_callV (As := [.int (nI ((cRm κ v i).2)), .int (((cRm κ v i).1) 109 i), .int (((cRm κ v i).1) 110 i), .int (((cRm κ v i).1) 111 i)]) (r := none) (σ1 := (cPut ((cRm κ v i).1) ((cRm κ v i).2) (((cRm κ v i).1) 109 i) (((cRm κ v i).1) 110 i) (((cRm κ v i).1) 111 i), μ, o)) (st := []) (st1 := []) C K ok_X1_25 (c_X1_put l D n0 ((cRm κ v i).1) μ o ((cRm κ v i).2) (((cRm κ v i).1) 109 i) (((cRm κ v i).1) 110 i) (((cRm κ v i).1) 111 i) (by omega)) enc_Q (by decide) rfl rfl ⟨by decide, by decide⟩ ⟨Nat.zero_le _, Nat.zero_le _⟩ (by simp [Value.category]) dX1_removeAllOf_38 rfl rfl ?_
        refine z_iinc (v := nI ((cRm κ v i).2 + 1)) (ls' := [some (.ref (n0 + 108)), some (.int v), some (.int (nI ((cRm κ v i).2 + 1))), some (.int (nI i))]) C rfl (cv_inc ((cRm κ v i).2) 1) (by decide) rfl dX1_removeAllOf_41 ?_
        refine z_iinc (v := nI (i + 1)) (ls' := [some (.ref (n0 + 108)), some (.int v), some (.int (nI ((cRm κ v i).2 + 1))), some (.int (nI (i + 1)))]) C rfl (cv_inc i 1) (by decide) rfl dX1_removeAllOf_44 ?_
        refine z_goto (tgt := 4) C dX1_removeAllOf_47 (by decide) ?_
        exact z_cast (σ1 := ((cRm κ v (i + 1)).1, μ, o)) (ls' := [some (.ref (n0 + 108)), some (.int v), some (.int (nI ((cRm κ v (i + 1)).2))), some (.int (nI (i + 1)))]) (st' := []) (ih_4) (st_k (by rw [cRm, if_neg h_18])) ⟨rfl, rfl, (so_int (by rw [cRm, if_neg h_18])), rfl, trivial⟩ rfl
set_option maxHeartbeats 4000000 in
set_option maxRecDepth 100000 in
theorem c_X1_removeAll (l : Launch) (D : DD) (n0 : Nat) (κ μ : KH) (o : Int64)  : HM l D n0 yX1_removeAll cX1_removeAll 2 (some .int) 0 0 [.ref (n0 + 108)] (κ, μ, o) (some (.int (κ 108 0))) (up κ 108 0 0, μ, o) := by
  refine HM.of (by decide) (by simp [Value.category]) (by simp) (Or.inr (Or.inl ⟨_, .int, rfl, rfl, rfl⟩)) ?_
  intro pp ee ss mm aa bb me cd Q C K hret
  show ZZ pp l ee (rmk 0 0) ss mm aa bb me cd D n0 127 2 0 0 Q _ 0 [some (.ref (n0 + 108)), none] []
  refine z_aload_n C rfl dX1_removeAll_0 ?_
  refine gf_X1_21 (v := κ 108 0) C rfl dX1_removeAll_1 ?_
  refine z_istore_n (ls' := [some (.ref (n0 + 108)), some (.int (κ 108 0))]) C (by decide) rfl dX1_removeAll_4 ?_
  refine z_aload_n C rfl dX1_removeAll_5 ?_
  refine z_iconst (v := 0) C (by decide +kernel) dX1_removeAll_6 ?_
  refine pf_X1_21 (x := 0) C dX1_removeAll_7 ?_
  refine z_iload_n C rfl dX1_removeAll_10 ?_
  exact z_endI (hret _ _ dX1_removeAll_11) rfl rfl
