/-! the class's own helpers, in words of its cells κ -/
def cOver (κ : KH) (k q : Nat) : Bool := decide (κ (k + 1) q = -1) && !decide (κ k 3 = -1) && !decide (κ k 5 < κ k 3)
def cNeed (κ : KH) (k q : Nat) : Bool := !cSol κ (κ (k + 1) q)
def cWord (κ : KH) (k w : Nat) : Int32 := if κ (k + 1) (w / 4) = -1 then (if κ k 1 = 0 then 0 else κ 112 w) else κ 107 (tn (κ (k + 1) (w / 4)) * 4 + w % 4)
def nC (κ : KH) : Nat := tn (κ 106 0)
def nQc (κ : KH) : Nat := tn (κ 108 0)
def cTkE (κ : KH) : Nat := cFnd κ (nC κ) (nC κ) (tn (κ 106 1))
def cCw1 (k q e i : Nat) (m : KH) : KH := up m 107 (e * 4 + i) (cWord m k (q * 4 + i))
def cPm0 (κ : KH) (k w : Nat) (x : Int32) (e : Nat) : KH := up (iterK (cCw1 k (w / 4) e) 4 (cTk κ (nC κ) e)) 107 (e * 4 + w % 4) x
def cPm1 (κ : KH) (k w : Nat) (x : Int32) : KH := cSet (cPm0 κ k w x (cTkE κ)) 1 k (w / 4) (nI (cTkE κ))
def cPm2 (κ : KH) (k w : Nat) (x : Int32) : KH := if nI (cFM (cPm1 κ k w x) (nC κ)) = cPm1 κ k w x 106 2 then up (cPm1 κ k w x) 106 3 (cPm1 κ k w x 106 3 + 1) else cPm1 κ k w x
def cPerf (κ : KH) (k w : Nat) (x : Int32) : KH := if cSol κ (κ (k + 1) (w / 4)) = true then up κ 107 (tn (κ (k + 1) (w / 4)) * 4 + w % 4) x else cPm2 κ k w x
def cPerR (κ : KH) (k w : Nat) : Int32 := if cSol κ (κ (k + 1) (w / 4)) = true then 0 else if κ (k + 1) (w / 4) = -1 then 1 else 2
/-- what the pool goes by -/
def cJ (κ : KH) : Prop := isN (κ 106 0) 97 ∧ 1 ≤ nC κ ∧ isN (κ 106 1) (nC κ) ∧ ∀ k, isV k → ∀ q, isX (κ (k + 1) q)
def cEn (κ : KH) (v w x : Int32) : KH × Int32 := if nQc κ = 8 then (κ, -1) else (up (cPut κ (nQc κ) v w x) 108 0 (nI (nQc κ + 1)), 3)
def cWn (κ : KH) (k : Nat) (v : Int32) (w : Nat) (x : Int32) : KH × Int32 :=
  if κ 0 7 = 1 then cEn κ v (nI w) x
  else if cFM κ (nC κ) ≠ 0 then (cPerf (up κ 0 7 0) k w x, cPerR (up κ 0 7 0) k w)
  else if κ 0 7 = 0 ∧ 0 < κ 0 8 then cEn (up (up κ 0 7 1) 0 9 (κ 0 10 + κ 0 8)) v (nI w) x
  else (up κ 0 7 2, -1)
def cWr (κ : KH) (k : Nat) (v : Int32) (w : Nat) (x : Int32) : KH × Int32 :=
  if κ 0 7 = 1 ∧ cWt κ (nQc κ) v (nI (w / 4)) (nI (w / 4 + 1)) = true then cEn κ v (nI w) x
  else if cNeed κ k (w / 4) = false then (cPerf κ k w x, cPerR κ k w)
  else if cOver κ k (w / 4) = true then (κ, -1)
  else cWn κ k v w x
def cVk (v : Nat) : Nat := 1 + 2 + 2 * v
/-- those that wait are served -/
def cDr : Nat → KH → KH
  | 0, x => up x 0 7 0
  | q + 1, x =>
    if cOver x (cVk (tn (x 109 0))) (tn (x 110 0) / 4) = true then cDr q (cUq (up x 0 11 (x 0 11 + 1)) q)
    else if cNeed x (cVk (tn (x 109 0))) (tn (x 110 0) / 4) = true ∧ cFM x (nC x) = 0 then x
    else cDr q (cUq (cPerf x (cVk (tn (x 109 0))) (tn (x 110 0)) (x 111 0)) q)
def cServe (κ : KH) : KH := if κ 0 7 = 1 then cDr (nQc κ) κ else κ
def cHd (κ : KH) : KH := up (cScp κ 36 1) 0 12 (cScp κ 36 1 0 12 + 1)
def cNs1 (κ : KH) (k p : Nat) : Nat := if κ (k + 1) p = -1 then 0 else if cSole κ (tn (κ (k + 1) p)) = true then 0 else 1
def cSort (κ : KH) (a b p : Nat) : Int32 := if κ (a + 1) p = -1 then (if κ (b + 1) p = -1 then -1 else 3) else if κ (b + 1) p = -1 then 2 else if κ (a + 1) p = κ (b + 1) p then 0 else 1
def cDf1 (κ : KH) (a b : Nat) (t : Int32) (p : Nat) : Nat := if cSort κ a b p = t then 1 else 0
def cBf (κ : KH) (a b : Nat) : Nat → Int32
  | 0 => -1
  | p + 1 => cSort κ a b p
def cRn1 (κ : KH) (a b p : Nat) : Nat := if cSort κ a b p = -1 then 0 else if cSort κ a b p = cBf κ a b p then 0 else 1
theorem cSol_m {κ : KH} : cSol κ (-1) = false := if_pos rfl
theorem cSol_n {κ : KH} {a : Nat} (h : a < 96) : cSol κ (nI a) = cSole κ a := by
  unfold cSol; rw [if_neg (nI_m1 (by omega)), tn_nI (by omega)]
theorem cTk_o {κ : KH} {n e c : Nat} (h : c ≠ 106) : cTk κ n e c = κ c := by
  unfold cTk; rw [up_cell h, up_cell h]
theorem cCw_o {κ : KH} {k q e c : Nat} (h : c ≠ 107) : ∀ j, iterK (cCw1 k q e) j κ c = κ c
  | 0 => rfl
  | j + 1 => by
    show cCw1 k q e j (iterK (cCw1 k q e) j κ) c = _
    unfold cCw1
    rw [up_cell h]; exact cCw_o h j
theorem cPm0_o {κ : KH} {k w e c : Nat} {x : Int32} (h1 : c ≠ 106) (h2 : c ≠ 107) : cPm0 κ k w x e c = κ c := by
  unfold cPm0; rw [up_cell h2, cCw_o h2, cTk_o h1]
theorem cSet_o {κ : KH} {b k p c : Nat} {x : Int32} (h1 : c ≠ b + 34) (h2 : c ≠ k) (h3 : c ≠ k + 1) : cSet κ b k p x c = κ c := by
  unfold cSet
  rw [up_cell h3]
  unfold cInc cDec
  split <;> split <;> first | rfl | (rw [up_cell h2, up_cell h1, up_cell h2, up_cell h1]; done) | (rw [up_cell h2, up_cell h1]; done)
theorem cPm0_106 {κ : KH} {k w e : Nat} {x : Int32} : cPm0 κ k w x e 106 = cTk κ (nC κ) e 106 := by
  unfold cPm0; rw [up_cell (by decide), cCw_o (by decide)]
theorem cTk_106 {κ : KH} {n e i : Nat} (h1 : i ≠ 1) (h4 : i ≠ 4) : cTk κ n e 106 i = κ 106 i := by
  unfold cTk; rw [up_ix h4, up_ix h1]
theorem isV_o {k : Nat} (hk : isV k) : 106 ≠ k ∧ 106 ≠ k + 1 ∧ 107 ≠ k ∧ 107 ≠ k + 1 ∧ 0 ≠ k ∧ 0 ≠ k + 1 ∧ k + 1 ≠ 106 ∧ k + 1 ≠ 107 ∧ k ≠ 106 ∧ k ≠ 107 := by
  obtain ⟨h1, h2, h3⟩ := isV_big hk
  refine ⟨?_, ?_, ?_, ?_, ?_, ?_, ?_, ?_, ?_, ?_⟩ <;> omega
theorem cPm1_106 {κ : KH} {k w i : Nat} {x : Int32} (hk : isV k) (h1 : i ≠ 1) (h4 : i ≠ 4) : cPm1 κ k w x 106 i = κ 106 i := by
  unfold cPm1
  rw [cSet_o (by decide) (isV_o hk).1 (isV_o hk).2.1, cPm0_106, cTk_106 h1 h4]
theorem isV_par {c k : Nat} (hc : isV c) (hk : isV k) : c ≠ k + 1 := by
  intro h
  subst h
  obtain ⟨h1, h2, h3, h4, h5⟩ := hk
  obtain ⟨_, _, _, _, a5⟩ := hc
  obtain ⟨q, rfl⟩ : ∃ q, k = q + 1 := ⟨k - 1, by omega⟩
  rw [Nat.add_sub_cancel] at h3 h4 h5 a5
  have h6 : (q + 1) % 35 = q % 35 + 1 := by omega
  omega
theorem cFM_0 {κ : KH} : ∀ n, cFM κ n ≠ 0 → ∃ e, e < n ∧ cFree κ e = true
  | 0, h => absurd rfl h
  | n + 1, h => by
    by_cases h1 : cFree κ n = true
    · exact ⟨n, by omega, h1⟩
    · obtain ⟨e, he, hf⟩ := cFM_0 n (fun q => h (by show sumTo (cFr1 κ) (n + 1) = 0; rw [sumTo, show sumTo (cFr1 κ) n = 0 from q, cFr1, if_neg h1]))
      exact ⟨e, by omega, hf⟩
theorem cFnd_lt {κ : KH} {n : Nat} (hn : 0 < n) : ∀ k e, e < n → cFnd κ n k e < n
  | 0, e, h => h
  | k + 1, e, h => by
    rw [cFnd]
    split
    · exact h
    · refine cFnd_lt hn k _ ?_
      unfold nx
      split <;> omega
theorem cRch_of {κ : KH} {n : Nat} (e0 : Nat) (h0 : e0 < n) (hf : cFree κ e0 = true) : ∀ k e, e < n → (e ≤ e0 ∧ e0 < e + k ∨ e0 < e ∧ e0 + n < e + k) → cRch κ n k e
  | 0, e, h, hk => by omega
  | k + 1, e, h, hk => by
    by_cases hee : e = e0
    · subst hee; exact Or.inl hf
    · refine Or.inr (cRch_of e0 h0 hf k _ ?_ ?_)
      · unfold nx; split <;> omega
      · unfold nx; split <;> omega
theorem cTkE_ok {κ : KH} (hJ : cJ κ) (hf : cFM κ (nC κ) ≠ 0) : cTkE κ < nC κ ∧ cRch κ (nC κ) (nC κ) (tn (κ 106 1)) ∧ cFree κ (cTkE κ) = true := by
  obtain ⟨e0, h0, h1⟩ := cFM_0 _ hf
  have hc := hJ.2.2.1.2
  have hr := cRch_of (κ := κ) e0 h0 h1 (nC κ) (tn (κ 106 1)) hc (by omega)
  exact ⟨cFnd_lt (by omega) _ _ hc, hr, cRch_f _ _ hr⟩
/-! congruence -/
theorem cFree_cg {κ ν : KH} (h1 : κ 35 = ν 35) (h2 : κ 70 = ν 70) (h3 : κ 105 = ν 105) : cFree κ = cFree ν := by
  funext e; unfold cFree; rw [h1, h2, h3]
theorem cSole_cg {κ ν : KH} (h1 : κ 35 = ν 35) (h2 : κ 70 = ν 70) (h3 : κ 105 = ν 105) : cSole κ = cSole ν := by
  funext e; unfold cSole; rw [h1, h2, h3]
theorem cFM_cg {κ ν : KH} (h1 : κ 35 = ν 35) (h2 : κ 70 = ν 70) (h3 : κ 105 = ν 105) : cFM κ = cFM ν := by
  funext n; unfold cFM; congr 1; funext e; unfold cFr1; rw [cFree_cg h1 h2 h3]
theorem nC_cg {κ ν : KH} (h : κ 106 = ν 106) : nC κ = nC ν := by unfold nC; rw [h]
theorem isVk {v : Nat} (h : v < 16) : isV (cVk v) := isV_of (Or.inl rfl) h
theorem okS1 : isS 1 := Or.inl rfl
theorem isV_lo {k : Nat} (hk : isV k) : k + 1 < 106 := (isV_big hk).2.2
theorem cJ_up0 {κ : KH} {i : Nat} {x : Int32} (hJ : cJ κ) : cJ (up κ 0 i x) := by
  obtain ⟨h1, h2, h3, h4⟩ := hJ
  have e : up κ 0 i x 106 = κ 106 := up_cell (by decide)
  refine ⟨by rw [e]; exact h1, by unfold nC; rw [e]; exact h2, by unfold nC; rw [e]; exact h3, fun k hk q => by rw [up_cell (by omega)]; exact h4 k hk q⟩
theorem cJ_o {κ ν : KH} (h6 : ν 106 = κ 106) (hv : ∀ c, c < 106 → ν c = κ c) (hJ : cJ κ) : cJ ν := by
  obtain ⟨h1, h2, h3, h4⟩ := hJ
  refine ⟨by rw [h6]; exact h1, by unfold nC; rw [h6]; exact h2, by unfold nC; rw [h6]; exact h3, fun k hk q => by rw [hv _ (isV_lo hk)]; exact h4 k hk q⟩
theorem cUq_o {κ : KH} {n c : Nat} (h0 : c ≠ 108) (h1 : c ≠ 109) (h2 : c ≠ 110) (h3 : c ≠ 111) : cUq κ n c = κ c := by
  unfold cUq; rw [up_cell h0]; exact cSh_o κ c h1 h2 h3 n
theorem cUq_0 {κ : KH} {n : Nat} : cUq κ n 108 0 = nI n := up_self
theorem iterCs_at (κ : KH) (c : Nat) (hc : c = 109 ∨ c = 110 ∨ c = 111) (i : Nat) : ∀ j, iterK cSh j κ c i = if i < j then κ c (i + 1) else κ c i
  | 0 => by rw [if_neg (by omega)]; rfl
  | j + 1 => by
    show cSh j (iterK cSh j κ) c i = _
    have h1 := iterCs_at κ c hc i j
    have h2 := iterCs_at κ c hc (j + 1) j
    rw [if_neg (by omega)] at h2
    by_cases hi : i = j
    · subst hi
      rw [if_pos (by omega)]
      rcases hc with rfl | rfl | rfl <;> simp [cSh, cPut, up, h2]
    · have h3 : cSh j (iterK cSh j κ) c i = iterK cSh j κ c i := by
        rcases hc with rfl | rfl | rfl <;> simp [cSh, cPut, up, hi]
      rw [h3, h1]
      by_cases hk : i < j
      · rw [if_pos hk, if_pos (by omega)]
      · rw [if_neg hk, if_neg (by omega)]
theorem cUq_q (κ : KH) (n c : Nat) (hc : c = 109 ∨ c = 110 ∨ c = 111) (i : Nat) : cUq κ n c i = if i < n then κ c (i + 1) else κ c i := by
  unfold cUq
  rw [up_cell (by rcases hc with rfl | rfl | rfl <;> decide)]
  exact iterCs_at κ c hc i n
/-- the cells that a write that is done may change -/
theorem cPm2_o {κ : KH} {k w c : Nat} {x : Int32} (h1 : c ≠ 35) (h2 : c ≠ k) (h3 : c ≠ k + 1) (h4 : c ≠ 106) (h5 : c ≠ 107) : cPm2 κ k w x c = κ c := by
  have h : cPm1 κ k w x c = κ c := by unfold cPm1; rw [cSet_o h1 h2 h3, cPm0_o h4 h5]
  unfold cPm2
  split
  · rw [up_cell h4, h]
  · exact h
theorem cPerf_o {κ : KH} {k w c : Nat} {x : Int32} (h1 : c ≠ 35) (h2 : c ≠ k) (h3 : c ≠ k + 1) (h4 : c ≠ 106) (h5 : c ≠ 107) : cPerf κ k w x c = κ c := by
  unfold cPerf
  split
  · exact up_cell h5
  · exact cPm2_o h1 h2 h3 h4 h5
theorem cPm2_106 {κ : KH} {k w i : Nat} {x : Int32} (hk : isV k) (h1 : i ≠ 1) (h3 : i ≠ 3) (h4 : i ≠ 4) : cPm2 κ k w x 106 i = κ 106 i := by
  unfold cPm2
  split
  · rw [up_ix h3, cPm1_106 hk h1 h4]
  · exact cPm1_106 hk h1 h4
theorem cPm2_cu {κ : KH} {k w : Nat} {x : Int32} (hk : isV k) : cPm2 κ k w x 106 1 = nI (nx (nC κ) (cTkE κ)) := by
  have h : cPm1 κ k w x 106 1 = nI (nx (nC κ) (cTkE κ)) := by
    unfold cPm1
    rw [cSet_o (by decide) (isV_o hk).1 (isV_o hk).2.1, cPm0_106]
    unfold cTk
    rw [up_ix (by decide), up_self]
  unfold cPm2
  split
  · rw [up_ix (by decide), h]
  · exact h
theorem cPm2_ext {κ : KH} {k w : Nat} {x : Int32} (hk : isV k) (c q : Nat) (hc : isV c) : cPm2 κ k w x (c + 1) q = if c = k ∧ q = w / 4 then nI (cTkE κ) else κ (c + 1) q := by
  have hcb := isV_lo hc
  have hkb := isV_lo hk
  have hu := isS_V okS1 hc
  have h : cPm1 κ k w x (c + 1) q = if c = k ∧ q = w / 4 then nI (cTkE κ) else κ (c + 1) q := by
    unfold cPm1
    by_cases h1 : c = k
    · subst h1
      rw [cSet_ext okS1 hc, cPm0_o (by omega) (by omega)]
      by_cases h2 : q = w / 4
      · rw [if_pos h2, if_pos ⟨rfl, h2⟩]
      · rw [if_neg h2, if_neg (fun z => h2 z.2)]
    · have h3 : c + 1 ≠ k := Ne.symm (isV_par hk hc)
      rw [cSet_o (Ne.symm hu.2.1) h3 (by omega), cPm0_o (by omega) (by omega), if_neg (fun z => h1 z.1)]
  unfold cPm2
  split
  · rw [up_cell (by omega), h]
  · exact h
theorem cPerf_106 {κ : KH} {k w i : Nat} {x : Int32} (hk : isV k) (h1 : i ≠ 1) (h3 : i ≠ 3) (h4 : i ≠ 4) : cPerf κ k w x 106 i = κ 106 i := by
  unfold cPerf
  split
  · rw [up_cell (by decide)]
  · exact cPm2_106 hk h1 h3 h4
theorem cJ_perf {κ : KH} {k w : Nat} {x : Int32} (hk : isV k) (hJ : cJ κ) (hf : cNeed κ k (w / 4) = true → cFM κ (nC κ) ≠ 0) : cJ (cPerf κ k w x) := by
  obtain ⟨h1, h2, h3, h4⟩ := id hJ
  unfold cPerf
  split
  · exact cJ_o (up_cell (by decide)) (fun c hc => up_cell (by omega)) hJ
  · rename_i hs
    have hn : cNeed κ k (w / 4) = true := by unfold cNeed; simpa using hs
    have h5 := (cTkE_ok hJ (hf hn)).1
    have hn9 : nC κ < 97 := h1.2
    have e0 : cPm2 κ k w x 106 0 = κ 106 0 := cPm2_106 hk (by decide) (by decide) (by decide)
    have eN : nC (cPm2 κ k w x) = nC κ := by unfold nC; rw [e0]
    refine ⟨by rw [e0]; exact h1, by rw [eN]; exact h2, ?_, fun c hc q => ?_⟩
    · rw [eN, cPm2_cu hk]
      refine isN_nI ?_ (by omega)
      unfold nx; split <;> omega
    · rw [cPm2_ext hk c q hc]
      split
      · exact Or.inr ⟨cTkE κ, by omega, rfl⟩
      · exact h4 c hc q
/-- what those that wait are served by -/
def cD (x : KH) (q : Nat) : Prop := cJ x ∧ x 108 0 = nI q ∧ q ≤ 8 ∧ ∀ k, k < q → isN (x 109 k) 16 ∧ isN (x 110 k) 160 ∧ x (cVk (tn (x 109 k))) 0 ≠ 0
theorem cVk_lt {v : Nat} (h : v < 16) : cVk v < 34 ∧ 3 ≤ cVk v := by unfold cVk; omega
theorem cD_uq {x : KH} {q : Nat} (h : cD x (q + 1)) : cD (cUq x q) q := by
  obtain ⟨h1, h2, h3, h4⟩ := h
  refine ⟨cJ_o (cUq_o (by decide) (by decide) (by decide) (by decide)) (fun c hc => cUq_o (by omega) (by omega) (by omega) (by omega)) h1, cUq_0, by omega, fun i hi => ?_⟩
  rw [cUq_q x q 109 (Or.inl rfl) i, cUq_q x q 110 (Or.inr (Or.inl rfl)) i, if_pos hi, if_pos hi]
  obtain ⟨a1, a2, a3⟩ := h4 (i + 1) (by omega)
  have hb := cVk_lt a1.2
  refine ⟨a1, a2, ?_⟩
  rw [cUq_o (by omega) (by omega) (by omega) (by omega)]
  exact a3
theorem cD_up0 {x : KH} {q i : Nat} {z : Int32} (h : cD x q) : cD (up x 0 i z) q := by
  obtain ⟨h1, h2, h3, h4⟩ := h
  refine ⟨cJ_up0 h1, by rw [up_cell (by decide)]; exact h2, h3, fun k hk => ?_⟩
  obtain ⟨a1, a2, a3⟩ := h4 k hk
  have hb := cVk_lt a1.2
  rw [up_cell (show (109 : Nat) ≠ 0 by decide), up_cell (show (110 : Nat) ≠ 0 by decide), up_cell (by omega)]
  exact ⟨a1, a2, a3⟩
theorem cSet_0 {κ : KH} {b k p c : Nat} {x : Int32} (hb : isS b) (hk : isV k) (hc : isV c) : cSet κ b k p x c 0 = κ c 0 := by
  have hu := isS_V hb hc
  have h3 : c ≠ k + 1 := isV_par hc hk
  unfold cSet
  rw [up_cell h3]
  unfold cInc cDec
  split <;> split <;> first | rfl | (rw [up_ix (by decide), up_cell (Ne.symm hu.1), up_ix (by decide), up_cell (Ne.symm hu.1)]; done) | (rw [up_ix (by decide), up_cell (Ne.symm hu.1)]; done)
theorem cPerf_0 {κ : KH} {k w c : Nat} {x : Int32} (hk : isV k) (hc : isV c) : cPerf κ k w x c 0 = κ c 0 := by
  have hb := isV_lo hc
  unfold cPerf
  split
  · rw [up_cell (by omega)]
  · have h : cPm1 κ k w x c 0 = κ c 0 := by unfold cPm1; rw [cSet_0 okS1 hk hc, cPm0_o (by omega) (by omega)]
    unfold cPm2
    split
    · rw [up_cell (by omega), h]
    · exact h
theorem cD_perf {x : KH} {q k w : Nat} {z : Int32} (hk : isV k) (hf : cNeed x k (w / 4) = true → cFM x (nC x) ≠ 0) (h : cD x q) : cD (cPerf x k w z) q := by
  obtain ⟨h1, h2, h3, h4⟩ := h
  have hb := isV_lo hk
  refine ⟨cJ_perf hk h1 hf, by rw [cPerf_o (by decide) (by omega) (by omega) (by decide) (by decide)]; exact h2, h3, fun i hi => ?_⟩
  rw [cPerf_o (c := 109) (by decide) (by omega) (by omega) (by decide) (by decide), cPerf_o (c := 110) (by decide) (by omega) (by omega) (by decide) (by decide)]
  obtain ⟨a1, a2, a3⟩ := h4 i hi
  refine ⟨a1, a2, ?_⟩
  rw [cPerf_0 hk (isVk a1.2)]
  exact a3
theorem cD_Q {x : KH} {q : Nat} (h : cD x q) : nQc x = q := by
  have h3 := h.2.2.1
  unfold nQc; rw [h.2.1]; exact tn_nI (by omega)
def okC (κ : KH) (v : Int32) : Prop := ∃ j : Nat, j < 16 ∧ v = nI j ∧ κ (cVk j) 0 ≠ 0
theorem sw_out (a b : Int32) {s : Int32} (h : s < a ∨ b < s) : s.toInt < a.toInt ∨ b.toInt < s.toInt := h.imp Int32.lt_iff_toInt_lt.mp Int32.lt_iff_toInt_lt.mp
theorem word_bad {w : Int32} {z : Nat} {G : Prop} (h1 : ¬ w < 0) (h2 : w < nI (z * 4)) (hz : z ≤ 40) (hb : ¬ ∃ c : Nat, w = nI c ∧ c < 4 * z) : G := by
  obtain ⟨c, hc, rfl⟩ := nI_of h1
  exact absurd ⟨c, rfl, by have := cv_lt hc (by omega) h2; omega⟩ hb
theorem ext_bad {e : Int32} {n : Nat} {G : Prop} (h1 : ¬ e < 0) (h2 : e < nI n) (hn : n ≤ 96) (hb : ¬ ∃ c : Nat, e = nI c ∧ c < n) : G := by
  obtain ⟨c, hc, rfl⟩ := nI_of h1
  exact absurd ⟨c, rfl, cv_lt hc (by omega) h2⟩ hb
theorem cv_ne0 {n : Nat} (h : 0 < n) (h2 : n < 2 ^ 31) : ¬ nI n = 0 := fun q => by
  have h3 : nI n = nI 0 := q
  have := cv_eq h2 (by decide) h3
  omega
set_option maxHeartbeats 4000000 in
set_option maxRecDepth 100000 in
theorem c_X4_numbered (l : Launch) (D : DD) (n0 : Nat) (κ μ : KH) (o : Int64) (v : Nat) (hv : v < 16) : HM l D n0 yX4_numbered cX4_numbered 3 (some (.object "ThinExtents$Volume")) 1 21 [.ref (n0 + 0), .int (nI v)] (κ, μ, o) (some (.ref (n0 + (cVk v)))) (κ, μ, o) := by
  refine HM.of (by decide) (by simp [Value.category]) (by simp) (Or.inr (Or.inr ⟨_, _, rfl, rfl, Or.inr ⟨_, rfl⟩⟩)) ?_
  intro pp ee ss mm aa bb me cd Q C K hret
  show ZZ pp l ee (rmk 1 21) ss mm aa bb me cd D n0 127 3 0 0 Q _ 0 [some (.ref (n0 + 0)), some (.int (nI v)), none] []
  refine z_aload_n C rfl dX4_numbered_0 ?_
  refine gf_X4_10 C dX4_numbered_1 ?_
  refine z_iload_n C rfl dX4_numbered_4 ?_
  refine z_callV (As := [.int (nI v)]) (r := (some (.ref (n0 + (cVk v))))) (σ1 := (κ, μ, o)) (st := []) (st1 := [.ref (n0 + (cVk v))]) C K ok_X4_226 (c_X2_slot l D n0 κ μ o 1 v (Or.inl rfl) (by omega)) (enc_S (Or.inl rfl)) (isS_lt (Or.inl rfl)) rfl rfl ⟨by decide, by decide⟩ ⟨Nat.zero_le _, Nat.zero_le _⟩ (by simp [Value.category]) dX4_numbered_5 rfl rfl ?_
  refine z_astore_n (ls' := [some (.ref (n0 + 0)), some (.int (nI v)), some (.ref (n0 + (cVk v)))]) C (by decide) rfl dX4_numbered_8 ?_
  refine z_aload_n C rfl dX4_numbered_9 ?_
  refine z_ifnonnull (tgt := 24) C dX4_numbered_10 (by decide) ?_
  refine z_aload_n C rfl dX4_numbered_24 ?_
  exact z_endA (hret _ _ dX4_numbered_25) rfl rfl
set_option maxHeartbeats 4000000 in
set_option maxRecDepth 100000 in
theorem c_X4_numbered_t (l : Launch) (hfl : l.stackTraces = false) (D : DD) (n0 : Nat) (κ μ : KH) (o : Int64) (v : Int32) (hv : vNum v = false) : HT l D n0 yX4_numbered cX4_numbered 3 (some (.object "ThinExtents$Volume")) 6 82 [.ref (n0 + 0), .int v] (κ, μ, o) cIO := by
  refine HT.of (by decide) (by simp [Value.category]) (by simp) ?_
  intro pp ee ss mm aa bb me cd C K hxt
  show ZZ pp l ee (rmx 6 82) ss mm aa bb me cd D n0 127 3 0 0 _ _ 0 [some (.ref (n0 + 0)), some (.int v), none] []
  refine z_aload_n C rfl dX4_numbered_0 ?_
  refine gf_X4_10 C dX4_numbered_1 ?_
  refine z_iload_n C rfl dX4_numbered_4 ?_
  refine z_callV (As := [.int v]) (r := (some (.null))) (σ1 := (κ, μ, o)) (st := []) (st1 := [.null]) C K ok_X4_226 (c_X2_slot_n l D n0 κ μ o 1 v (Or.inl rfl) hv) (enc_S (Or.inl rfl)) (isS_lt (Or.inl rfl)) rfl rfl ⟨by decide, by decide⟩ ⟨Nat.zero_le _, Nat.zero_le _⟩ (by simp [Value.category]) dX4_numbered_5 rfl rfl ?_
  refine z_astore_nN (ls' := [some (.ref (n0 + 0)), some (.int v), some (.null)]) C (by decide) rfl dX4_numbered_8 ?_
  refine z_aload_nN C rfl dX4_numbered_9 ?_
  refine z_ifnonnullN C dX4_numbered_10 ?_
  exact z_throwW (σ0 := (κ, μ, o)) C K hfl hxt (E := cIO) (by decide +kernel) (by decide +kernel) th4_cIO th5_cIO rfl (List.mem_of_getElem? (i := 0) rfl) th1_cIO th2_cIO th3_cIO dX4_numbered_13 dX4_numbered_16 dX4_numbered_17 dX4_numbered_20 dX4_numbered_23 ⟨by decide, by decide, by decide, by decide⟩
set_option maxHeartbeats 4000000 in
set_option maxRecDepth 100000 in
theorem c_X4_existing (l : Launch) (D : DD) (n0 : Nat) (κ μ : KH) (o : Int64) (v : Nat) (hv : v < 16) (h0 : κ (cVk v) 0 ≠ 0) : HM l D n0 yX4_existing cX4_existing 3 (some (.object "ThinExtents$Volume")) 2 43 [.ref (n0 + 0), .int (nI v)] (κ, μ, o) (some (.ref (n0 + (cVk v)))) (κ, μ, o) := by
  refine HM.of (by decide) (by simp [Value.category]) (by simp) (Or.inr (Or.inr ⟨_, _, rfl, rfl, Or.inr ⟨_, rfl⟩⟩)) ?_
  intro pp ee ss mm aa bb me cd Q C K hret
  show ZZ pp l ee (rmk 2 43) ss mm aa bb me cd D n0 127 3 0 0 Q _ 0 [some (.ref (n0 + 0)), some (.int (nI v)), none] []
  refine z_aload_n C rfl dX4_existing_0 ?_
  refine gf_X4_10 C dX4_existing_1 ?_
  refine z_iload_n C rfl dX4_existing_4 ?_
  refine z_callV (As := [.int (nI v)]) (r := (some (.ref (n0 + (cVk v))))) (σ1 := (κ, μ, o)) (st := []) (st1 := [.ref (n0 + (cVk v))]) C K ok_X4_276 (c_X2_find l D n0 κ μ o 1 v (Or.inl rfl) (by omega) h0) (enc_S (Or.inl rfl)) (isS_lt (Or.inl rfl)) rfl rfl ⟨by decide, by decide⟩ ⟨Nat.zero_le _, Nat.zero_le _⟩ (by simp [Value.category]) dX4_existing_5 rfl rfl ?_
  refine z_astore_n (ls' := [some (.ref (n0 + 0)), some (.int (nI v)), some (.ref (n0 + (cVk v)))]) C (by decide) rfl dX4_existing_8 ?_
  refine z_aload_n C rfl dX4_existing_9 ?_
  refine z_ifnonnull (tgt := 24) C dX4_existing_10 (by decide) ?_
  refine z_aload_n C rfl dX4_existing_24 ?_
  exact z_endA (hret _ _ dX4_existing_25) rfl rfl
set_option maxHeartbeats 4000000 in
set_option maxRecDepth 100000 in
theorem c_X4_existing_t (l : Launch) (hfl : l.stackTraces = false) (D : DD) (n0 : Nat) (κ μ : KH) (o : Int64) (v : Int32) (hb : ¬ okC κ v) : HT l D n0 yX4_existing cX4_existing 3 (some (.object "ThinExtents$Volume")) 6 82 [.ref (n0 + 0), .int v] (κ, μ, o) cIO := by
  refine HT.of (by decide) (by simp [Value.category]) (by simp) ?_
  intro pp ee ss mm aa bb me cd C K hxt
  show ZZ pp l ee (rmx 6 82) ss mm aa bb me cd D n0 127 3 0 0 _ _ 0 [some (.ref (n0 + 0)), some (.int v), none] []
  rcases vNum_or v with hv | ⟨j, hj, rfl⟩
  · skip
    refine z_aload_n C rfl dX4_existing_0 ?_
    refine gf_X4_10 C dX4_existing_1 ?_
    refine z_iload_n C rfl dX4_existing_4 ?_
    refine z_callV (As := [.int v]) (r := (some (.null))) (σ1 := (κ, μ, o)) (st := []) (st1 := [.null]) C K ok_X4_276 (c_X2_find_n l D n0 κ μ o 1 v (Or.inl rfl) hv) (enc_S (Or.inl rfl)) (isS_lt (Or.inl rfl)) rfl rfl ⟨by decide, by decide⟩ ⟨Nat.zero_le _, Nat.zero_le _⟩ (by simp [Value.category]) dX4_existing_5 rfl rfl ?_
    refine z_astore_nN (ls' := [some (.ref (n0 + 0)), some (.int v), some (.null)]) C (by decide) rfl dX4_existing_8 ?_
    refine z_aload_nN C rfl dX4_existing_9 ?_
    refine z_ifnonnullN C dX4_existing_10 ?_
    exact z_throwW (σ0 := (κ, μ, o)) C K hfl hxt (E := cIO) (by decide +kernel) (by decide +kernel) th4_cIO th5_cIO rfl (List.mem_of_getElem? (i := 3) rfl) th1_cIO th2_cIO th3_cIO dX4_existing_13 dX4_existing_16 dX4_existing_17 dX4_existing_20 dX4_existing_23 ⟨by decide, by decide, by decide, by decide⟩
  · skip
    refine z_aload_n C rfl dX4_existing_0 ?_
    refine gf_X4_10 C dX4_existing_1 ?_
    refine z_iload_n C rfl dX4_existing_4 ?_
    have h0 : κ (cVk j) 0 = 0 := Classical.not_not.mp fun q => hb ⟨j, hj, rfl, q⟩
    · skip
      refine z_callV (As := [.int (nI j)]) (r := (some (.null))) (σ1 := (κ, μ, o)) (st := []) (st1 := [.null]) C K ok_X4_276 (c_X2_find_m l D n0 κ μ o 1 j (Or.inl rfl) (by omega) h0) (enc_S (Or.inl rfl)) (isS_lt (Or.inl rfl)) rfl rfl ⟨by decide, by decide⟩ ⟨Nat.zero_le _, Nat.zero_le _⟩ (by simp [Value.category]) dX4_existing_5 rfl rfl ?_
      refine z_astore_nN (ls' := [some (.ref (n0 + 0)), some (.int (nI j)), some (.null)]) C (by decide) rfl dX4_existing_8 ?_
      refine z_aload_nN C rfl dX4_existing_9 ?_
      refine z_ifnonnullN C dX4_existing_10 ?_
      exact z_throwW (σ0 := (κ, μ, o)) C K hfl hxt (E := cIO) (by decide +kernel) (by decide +kernel) th4_cIO th5_cIO rfl (List.mem_of_getElem? (i := 3) rfl) th1_cIO th2_cIO th3_cIO dX4_existing_13 dX4_existing_16 dX4_existing_17 dX4_existing_20 dX4_existing_23 ⟨by decide, by decide, by decide, by decide⟩
set_option maxHeartbeats 4000000 in
set_option maxRecDepth 100000 in
theorem c_X4_requireSize (l : Launch) (D : DD) (n0 : Nat) (κ μ : KH) (o : Int64) (z : Nat) (h1 : 1 ≤ z) (h40 : z ≤ 40) : HM l D n0 yX4_requireSize cX4_requireSize 2 none 0 0 [.ref (n0 + 0), .int (nI z)] (κ, μ, o) none (κ, μ, o) := by
  refine HM.of (by decide) (by simp [Value.category]) (by simp) (Or.inl ⟨rfl, rfl⟩) ?_
  intro pp ee ss mm aa bb me cd Q C K hret
  show ZZ pp l ee (rmk 0 0) ss mm aa bb me cd D n0 127 2 0 0 Q _ 0 [some (.ref (n0 + 0)), some (.int (nI z))] []
  refine z_iload_n C rfl dX4_requireSize_0 ?_
  refine z_iconst (v := 1) C (by decide +kernel) dX4_requireSize_1 ?_
  refine z_icmp_lt (tgt := 11) C dX4_requireSize_2 (by decide) (fun h_2 => ?_) (fun h_2 => ?_)
  · have g_2 := cv_lt (a := z) (b := 1) (by omega) (by omega) h_2
    exact absurd g_2 (by omega)
  · have g_2 := cv_nlt (a := z) (b := 1) (by omega) (by omega) h_2
    refine z_iload_n C rfl dX4_requireSize_5 ?_
    refine z_bipush (v := 40) C (by decide +kernel) dX4_requireSize_6 ?_
    refine z_icmp_le (tgt := 22) C dX4_requireSize_8 (by decide) (fun h_8 => ?_) (fun h_8 => ?_)
    · have g_8 := cv_le (a := z) (b := 40) (by omega) (by omega) h_8
      exact z_endV (hret _ _ dX4_requireSize_22) rfl
    · have g_8 := cv_nle (a := z) (b := 40) (by omega) (by omega) h_8
      exact absurd g_8 (by omega)
set_option maxHeartbeats 4000000 in
set_option maxRecDepth 100000 in
theorem c_X4_requireSize_t (l : Launch) (hfl : l.stackTraces = false) (D : DD) (n0 : Nat) (κ μ : KH) (o : Int64) (s : Int32) (hs : vSiz s = false) : HT l D n0 yX4_requireSize cX4_requireSize 2 none 6 82 [.ref (n0 + 0), .int s] (κ, μ, o) cIA := by
  refine HT.of (by decide) (by simp [Value.category]) (by simp) ?_
  intro pp ee ss mm aa bb me cd C K hxt
  show ZZ pp l ee (rmx 6 82) ss mm aa bb me cd D n0 127 2 0 0 _ _ 0 [some (.ref (n0 + 0)), some (.int s)] []
  refine z_iload_n C rfl dX4_requireSize_0 ?_
  refine z_iconst (v := 1) C (by decide +kernel) dX4_requireSize_1 ?_
  refine z_icmp_lt (tgt := 11) C dX4_requireSize_2 (by decide) (fun h_2 => ?_) (fun h_2 => ?_)
  · skip
    exact z_throwW (σ0 := (κ, μ, o)) C K hfl hxt (E := cIA) (by decide +kernel) (by decide +kernel) th4_cIA th5_cIA rfl (List.mem_of_getElem? (i := 1) rfl) th1_cIA th2_cIA th3_cIA dX4_requireSize_11 dX4_requireSize_14 dX4_requireSize_15 dX4_requireSize_18 dX4_requireSize_21 ⟨by decide, by decide, by decide, by decide⟩
  · skip
    refine z_iload_n C rfl dX4_requireSize_5 ?_
    refine z_bipush (v := 40) C (by decide +kernel) dX4_requireSize_6 ?_
    refine z_icmp_le (tgt := 22) C dX4_requireSize_8 (by decide) (fun h_8 => ?_) (fun h_8 => ?_)
    · exact absurd hs (by simp [vSiz, h_2, Int32.not_lt.mpr h_8])
    · skip
      exact z_throwW (σ0 := (κ, μ, o)) C K hfl hxt (E := cIA) (by decide +kernel) (by decide +kernel) th4_cIA th5_cIA rfl (List.mem_of_getElem? (i := 1) rfl) th1_cIA th2_cIA th3_cIA dX4_requireSize_11 dX4_requireSize_14 dX4_requireSize_15 dX4_requireSize_18 dX4_requireSize_21 ⟨by decide, by decide, by decide, by decide⟩
set_option maxHeartbeats 4000000 in
set_option maxRecDepth 100000 in
theorem c_X4_requireWord (l : Launch) (D : DD) (n0 : Nat) (κ μ : KH) (o : Int64) (k w z : Nat) (hk : isV k) (hz : κ k 2 = nI z) (hz40 : z ≤ 40) (hw : w < 4 * z) : HM l D n0 yX4_requireWord cX4_requireWord 3 none 0 0 [.ref (n0 + 0), .ref (n0 + k), .int (nI w)] (κ, μ, o) none (κ, μ, o) := by
  refine HM.of (by decide) (by simp [Value.category]) (by simp) (Or.inl ⟨rfl, rfl⟩) ?_
  intro pp ee ss mm aa bb me cd Q C K hret
  show ZZ pp l ee (rmk 0 0) ss mm aa bb me cd D n0 127 3 0 0 Q _ 0 [some (.ref (n0 + 0)), some (.ref (n0 + k)), some (.int (nI w))] []
  refine z_iload_n C rfl dX4_requireWord_0 ?_
  refine z_if_lt (tgt := 14) C dX4_requireWord_1 (by decide) (fun h_1 => ?_) (fun h_1 => ?_)
  · exact absurd h_1 (nI_pos (by omega))
  · skip
    refine z_iload_n C rfl dX4_requireWord_4 ?_
    refine z_aload_n C rfl dX4_requireWord_5 ?_
    refine gf_X4_74 (v := nI z) C hk hz dX4_requireWord_6 ?_
    refine z_iconst (v := 4) C (by decide +kernel) dX4_requireWord_9 ?_
    refine z_imul (v := nI (z * 4)) C (cv_mul z 4) dX4_requireWord_10 ?_
    refine z_icmp_lt (tgt := 25) C dX4_requireWord_11 (by decide) (fun h_11 => ?_) (fun h_11 => ?_)
    · have g_11 := cv_lt (a := w) (b := z * 4) (by omega) (by omega) h_11
      exact z_endV (hret _ _ dX4_requireWord_25) rfl
    · have g_11 := cv_nlt (a := w) (b := z * 4) (by omega) (by omega) h_11
      exact absurd g_11 (by omega)
set_option maxHeartbeats 4000000 in
set_option maxRecDepth 100000 in
theorem c_X4_requireWord_t (l : Launch) (hfl : l.stackTraces = false) (D : DD) (n0 : Nat) (κ μ : KH) (o : Int64) (k z : Nat) (w : Int32) (hk : isV k) (hz : κ k 2 = nI z) (hz40 : z ≤ 40) (hb : ¬ ∃ c : Nat, w = nI c ∧ c < 4 * z) : HT l D n0 yX4_requireWord cX4_requireWord 3 none 6 82 [.ref (n0 + 0), .ref (n0 + k), .int w] (κ, μ, o) cIO := by
  refine HT.of (by decide) (by simp [Value.category]) (by simp) ?_
  intro pp ee ss mm aa bb me cd C K hxt
  show ZZ pp l ee (rmx 6 82) ss mm aa bb me cd D n0 127 3 0 0 _ _ 0 [some (.ref (n0 + 0)), some (.ref (n0 + k)), some (.int w)] []
  refine z_iload_n C rfl dX4_requireWord_0 ?_
  refine z_if_lt (tgt := 14) C dX4_requireWord_1 (by decide) (fun h_1 => ?_) (fun h_1 => ?_)
  · skip
    exact z_throwW (σ0 := (κ, μ, o)) C K hfl hxt (E := cIO) (by decide +kernel) (by decide +kernel) th4_cIO th5_cIO rfl (List.mem_of_getElem? (i := 5) rfl) th1_cIO th2_cIO th3_cIO dX4_requireWord_14 dX4_requireWord_17 dX4_requireWord_18 dX4_requireWord_21 dX4_requireWord_24 ⟨by decide, by decide, by decide, by decide⟩
  · skip
    refine z_iload_n C rfl dX4_requireWord_4 ?_
    refine z_aload_n C rfl dX4_requireWord_5 ?_
    refine gf_X4_74 (v := nI z) C hk hz dX4_requireWord_6 ?_
    refine z_iconst (v := 4) C (by decide +kernel) dX4_requireWord_9 ?_
    refine z_imul (v := nI (z * 4)) C (cv_mul z 4) dX4_requireWord_10 ?_
    refine z_icmp_lt (tgt := 25) C dX4_requireWord_11 (by decide) (fun h_11 => ?_) (fun h_11 => ?_)
    · exact word_bad h_1 h_11 hz40 hb
    · skip
      exact z_throwW (σ0 := (κ, μ, o)) C K hfl hxt (E := cIO) (by decide +kernel) (by decide +kernel) th4_cIO th5_cIO rfl (List.mem_of_getElem? (i := 5) rfl) th1_cIO th2_cIO th3_cIO dX4_requireWord_14 dX4_requireWord_17 dX4_requireWord_18 dX4_requireWord_21 dX4_requireWord_24 ⟨by decide, by decide, by decide, by decide⟩
set_option maxHeartbeats 4000000 in
set_option maxRecDepth 100000 in
theorem c_X4_requireNoneWaits (l : Launch) (D : DD) (n0 : Nat) (κ μ : KH) (o : Int64) (n : Nat) (hn : κ 108 0 = nI n) (hn8 : n ≤ 8) (v a b : Int32) (hw : cWt κ n v a b = false) : HM l D n0 yX4_requireNoneWaits cX4_requireNoneWaits 4 none 2 46 [.ref (n0 + 0), .int v, .int a, .int b] (κ, μ, o) none (κ, μ, o) := by
  refine HM.of (by decide) (by simp [Value.category]) (by simp) (Or.inl ⟨rfl, rfl⟩) ?_
  intro pp ee ss mm aa bb me cd Q C K hret
  show ZZ pp l ee (rmk 2 46) ss mm aa bb me cd D n0 127 4 0 0 Q _ 0 [some (.ref (n0 + 0)), some (.int v), some (.int a), some (.int b)] []
  refine z_aload_n C rfl dX4_requireNoneWaits_0 ?_
  refine gf_X4_34 C dX4_requireNoneWaits_1 ?_
  refine z_iload_n C rfl dX4_requireNoneWaits_4 ?_
  refine z_iload_n C rfl dX4_requireNoneWaits_5 ?_
  refine z_iload_n C rfl dX4_requireNoneWaits_6 ?_
  refine z_callV (As := [.int v, .int a, .int b]) (r := (some (.int (b2i (cWt κ n v a b))))) (σ1 := (κ, μ, o)) (st := []) (st1 := [.int (b2i (cWt κ n v a b))]) C K ok_X4_122 (c_X1_waitsIn l D n0 κ μ o n v a b hn hn8) enc_Q (by decide) rfl rfl ⟨by decide, by decide⟩ ⟨Nat.zero_le _, Nat.zero_le _⟩ (by simp [Value.category]) dX4_requireNoneWaits_7 rfl rfl ?_
  refine z_if_eq (tgt := 24) C dX4_requireNoneWaits_10 (by decide) (fun h_10 => ?_) (fun h_10 => ?_)
  · have g_10 := cv_b0 h_10
    exact z_endV (hret _ _ dX4_requireNoneWaits_24) rfl
  · have g_10 := cv_b1 h_10
    exact absurd g_10 (by rw [hw]; decide)
set_option maxHeartbeats 4000000 in
set_option maxRecDepth 100000 in
theorem c_X4_requireNoneWaits_t (l : Launch) (hfl : l.stackTraces = false) (D : DD) (n0 : Nat) (κ μ : KH) (o : Int64) (n : Nat) (hn : κ 108 0 = nI n) (hn8 : n ≤ 8) (v a b : Int32) (hw : cWt κ n v a b = true) : HT l D n0 yX4_requireNoneWaits cX4_requireNoneWaits 4 none 6 82 [.ref (n0 + 0), .int v, .int a, .int b] (κ, μ, o) cIS := by
  refine HT.of (by decide) (by simp [Value.category]) (by simp) ?_
  intro pp ee ss mm aa bb me cd C K hxt
  show ZZ pp l ee (rmx 6 82) ss mm aa bb me cd D n0 127 4 0 0 _ _ 0 [some (.ref (n0 + 0)), some (.int v), some (.int a), some (.int b)] []
  refine z_aload_n C rfl dX4_requireNoneWaits_0 ?_
  refine gf_X4_34 C dX4_requireNoneWaits_1 ?_
  refine z_iload_n C rfl dX4_requireNoneWaits_4 ?_
  refine z_iload_n C rfl dX4_requireNoneWaits_5 ?_
  refine z_iload_n C rfl dX4_requireNoneWaits_6 ?_
  refine z_callV (As := [.int v, .int a, .int b]) (r := (some (.int (b2i (cWt κ n v a b))))) (σ1 := (κ, μ, o)) (st := []) (st1 := [.int (b2i (cWt κ n v a b))]) C K ok_X4_122 (c_X1_waitsIn l D n0 κ μ o n v a b hn hn8) enc_Q (by decide) rfl rfl ⟨by decide, by decide⟩ ⟨Nat.zero_le _, Nat.zero_le _⟩ (by simp [Value.category]) dX4_requireNoneWaits_7 rfl rfl ?_
  refine z_if_eq (tgt := 24) C dX4_requireNoneWaits_10 (by decide) (fun h_10 => ?_) (fun h_10 => ?_)
  · have g_10 := cv_b0 h_10
    exact absurd g_10 (by rw [hw]; decide)
  · have g_10 := cv_b1 h_10
    exact z_throwW (σ0 := (κ, μ, o)) C K hfl hxt (E := cIS) (by decide +kernel) (by decide +kernel) th4_cIS th5_cIS rfl (List.mem_of_getElem? (i := 4) rfl) th1_cIS th2_cIS th3_cIS dX4_requireNoneWaits_13 dX4_requireNoneWaits_16 dX4_requireNoneWaits_17 dX4_requireNoneWaits_20 dX4_requireNoneWaits_23 ⟨by decide, by decide, by decide, by decide⟩
set_option maxHeartbeats 4000000 in
set_option maxRecDepth 100000 in
theorem c_X4_requireNotNegative (l : Launch) (D : DD) (n0 : Nat) (κ μ : KH) (o : Int64) (c : Nat) (hc : c < 2 ^ 31) : HM l D n0 yX4_requireNotNegative cX4_requireNotNegative 2 none 0 0 [.ref (n0 + 0), .int (nI c)] (κ, μ, o) none (κ, μ, o) := by
  refine HM.of (by decide) (by simp [Value.category]) (by simp) (Or.inl ⟨rfl, rfl⟩) ?_
  intro pp ee ss mm aa bb me cd Q C K hret
  show ZZ pp l ee (rmk 0 0) ss mm aa bb me cd D n0 127 2 0 0 Q _ 0 [some (.ref (n0 + 0)), some (.int (nI c))] []
  refine z_iload_n C rfl dX4_requireNotNegative_0 ?_
  refine z_if_ge (tgt := 15) C dX4_requireNotNegative_1 (by decide) (fun h_1 => ?_) (fun h_1 => ?_)
  · skip
    exact z_endV (hret _ _ dX4_requireNotNegative_15) rfl
  · exact absurd (nI_pos' (by omega)) h_1
set_option maxHeartbeats 4000000 in
set_option maxRecDepth 100000 in
theorem c_X4_requireNotNegative_t (l : Launch) (hfl : l.stackTraces = false) (D : DD) (n0 : Nat) (κ μ : KH) (o : Int64) (c : Int32) (hc : c < 0) : HT l D n0 yX4_requireNotNegative cX4_requireNotNegative 2 none 6 82 [.ref (n0 + 0), .int c] (κ, μ, o) cIA := by
  refine HT.of (by decide) (by simp [Value.category]) (by simp) ?_
  intro pp ee ss mm aa bb me cd C K hxt
  show ZZ pp l ee (rmx 6 82) ss mm aa bb me cd D n0 127 2 0 0 _ _ 0 [some (.ref (n0 + 0)), some (.int c)] []
  refine z_iload_n C rfl dX4_requireNotNegative_0 ?_
  refine z_if_ge (tgt := 15) C dX4_requireNotNegative_1 (by decide) (fun h_1 => ?_) (fun h_1 => ?_)
  · exact absurd hc (Int32.not_lt.mpr h_1)
  · skip
    exact z_throwW (σ0 := (κ, μ, o)) C K hfl hxt (E := cIA) (by decide +kernel) (by decide +kernel) th4_cIA th5_cIA rfl (List.mem_of_getElem? (i := 7) rfl) th1_cIA th2_cIA th3_cIA dX4_requireNotNegative_4 dX4_requireNotNegative_7 dX4_requireNotNegative_8 dX4_requireNotNegative_11 dX4_requireNotNegative_14 ⟨by decide, by decide, by decide, by decide⟩
set_option maxHeartbeats 4000000 in
set_option maxRecDepth 100000 in
theorem c_X4_requireExtent (l : Launch) (D : DD) (n0 : Nat) (κ μ : KH) (o : Int64) (n e : Nat) (hE : κ 106 0 = nI n) (hn : n ≤ 96) (he : e < n) : HM l D n0 yX4_requireExtent cX4_requireExtent 2 none 0 0 [.ref (n0 + 0), .int (nI e)] (κ, μ, o) none (κ, μ, o) := by
  refine HM.of (by decide) (by simp [Value.category]) (by simp) (Or.inl ⟨rfl, rfl⟩) ?_
  intro pp ee ss mm aa bb me cd Q C K hret
  show ZZ pp l ee (rmk 0 0) ss mm aa bb me cd D n0 127 2 0 0 Q _ 0 [some (.ref (n0 + 0)), some (.int (nI e))] []
  refine z_iload_n C rfl dX4_requireExtent_0 ?_
  refine z_if_lt (tgt := 15) C dX4_requireExtent_1 (by decide) (fun h_1 => ?_) (fun h_1 => ?_)
  · exact absurd h_1 (nI_pos (by omega))
  · skip
    refine z_iload_n C rfl dX4_requireExtent_4 ?_
    refine z_aload_n C rfl dX4_requireExtent_5 ?_
    refine gf_X4_27 C dX4_requireExtent_6 ?_
    refine gf_X4_156 (v := nI n) C hE dX4_requireExtent_9 ?_
    refine z_icmp_lt (tgt := 26) C dX4_requireExtent_12 (by decide) (fun h_12 => ?_) (fun h_12 => ?_)
    · have g_12 := cv_lt (a := e) (b := n) (by omega) (by omega) h_12
      exact z_endV (hret _ _ dX4_requireExtent_26) rfl
    · have g_12 := cv_nlt (a := e) (b := n) (by omega) (by omega) h_12
      exact absurd g_12 (by omega)
set_option maxHeartbeats 4000000 in
set_option maxRecDepth 100000 in
theorem c_X4_requireExtent_t (l : Launch) (hfl : l.stackTraces = false) (D : DD) (n0 : Nat) (κ μ : KH) (o : Int64) (n : Nat) (e : Int32) (hE : κ 106 0 = nI n) (hn : n ≤ 96) (hb : ¬ ∃ c : Nat, e = nI c ∧ c < n) : HT l D n0 yX4_requireExtent cX4_requireExtent 2 none 6 82 [.ref (n0 + 0), .int e] (κ, μ, o) cIO := by
  refine HT.of (by decide) (by simp [Value.category]) (by simp) ?_
  intro pp ee ss mm aa bb me cd C K hxt
  show ZZ pp l ee (rmx 6 82) ss mm aa bb me cd D n0 127 2 0 0 _ _ 0 [some (.ref (n0 + 0)), some (.int e)] []
  refine z_iload_n C rfl dX4_requireExtent_0 ?_
  refine z_if_lt (tgt := 15) C dX4_requireExtent_1 (by decide) (fun h_1 => ?_) (fun h_1 => ?_)
  · skip
    exact z_throwW (σ0 := (κ, μ, o)) C K hfl hxt (E := cIO) (by decide +kernel) (by decide +kernel) th4_cIO th5_cIO rfl (List.mem_of_getElem? (i := 19) rfl) th1_cIO th2_cIO th3_cIO dX4_requireExtent_15 dX4_requireExtent_18 dX4_requireExtent_19 dX4_requireExtent_22 dX4_requireExtent_25 ⟨by decide, by decide, by decide, by decide⟩
  · skip
    refine z_iload_n C rfl dX4_requireExtent_4 ?_
    refine z_aload_n C rfl dX4_requireExtent_5 ?_
    refine gf_X4_27 C dX4_requireExtent_6 ?_
    refine gf_X4_156 (v := nI n) C hE dX4_requireExtent_9 ?_
    refine z_icmp_lt (tgt := 26) C dX4_requireExtent_12 (by decide) (fun h_12 => ?_) (fun h_12 => ?_)
    · exact ext_bad h_1 h_12 hn hb
    · skip
      exact z_throwW (σ0 := (κ, μ, o)) C K hfl hxt (E := cIO) (by decide +kernel) (by decide +kernel) th4_cIO th5_cIO rfl (List.mem_of_getElem? (i := 19) rfl) th1_cIO th2_cIO th3_cIO dX4_requireExtent_15 dX4_requireExtent_18 dX4_requireExtent_19 dX4_requireExtent_22 dX4_requireExtent_25 ⟨by decide, by decide, by decide, by decide⟩
set_option maxHeartbeats 4000000 in
set_option maxRecDepth 100000 in
theorem c_X4_stateOf_0 (l : Launch) (D : DD) (n0 : Nat) (κ μ : KH) (o : Int64)  : HM l D n0 yX4_stateOf cX4_stateOf 2 (some (.object "ThinExtents$State")) 0 0 [.ref (n0 + 0), .int 0] (κ, μ, o) (some (.ref (n0 + 1))) (κ, μ, o) := by
  refine HM.of (by decide) (by simp [Value.category]) (by simp) (Or.inr (Or.inr ⟨_, _, rfl, rfl, Or.inr ⟨_, rfl⟩⟩)) ?_
  intro pp ee ss mm aa bb me cd Q C K hret
  show ZZ pp l ee (rmk 0 0) ss mm aa bb me cd D n0 127 2 0 0 Q _ 0 [some (.ref (n0 + 0)), some (.int 0)] []
  refine z_iload_n C rfl dX4_stateOf_0 ?_
  refine z_tableIn (tgt := 28) C dX4_stateOf_1 (by decide +kernel) (by decide +kernel) (off := 27) (by decide +kernel) (by decide) ?_
  refine z_aload_n C rfl dX4_stateOf_28 ?_
  refine gf_X4_10 C dX4_stateOf_29 ?_
  exact z_endA (hret _ _ dX4_stateOf_32) rfl rfl
set_option maxHeartbeats 4000000 in
set_option maxRecDepth 100000 in
theorem c_X4_stateOf_1 (l : Launch) (D : DD) (n0 : Nat) (κ μ : KH) (o : Int64)  : HM l D n0 yX4_stateOf cX4_stateOf 2 (some (.object "ThinExtents$State")) 0 0 [.ref (n0 + 0), .int 1] (κ, μ, o) (some (.ref (n0 + 36))) (κ, μ, o) := by
  refine HM.of (by decide) (by simp [Value.category]) (by simp) (Or.inr (Or.inr ⟨_, _, rfl, rfl, Or.inr ⟨_, rfl⟩⟩)) ?_
  intro pp ee ss mm aa bb me cd Q C K hret
  show ZZ pp l ee (rmk 0 0) ss mm aa bb me cd D n0 127 2 0 0 Q _ 0 [some (.ref (n0 + 0)), some (.int 1)] []
  refine z_iload_n C rfl dX4_stateOf_0 ?_
  refine z_tableIn (tgt := 33) C dX4_stateOf_1 (by decide +kernel) (by decide +kernel) (off := 32) (by decide +kernel) (by decide) ?_
  refine z_aload_n C rfl dX4_stateOf_33 ?_
  refine gf_X4_16 C dX4_stateOf_34 ?_
  exact z_endA (hret _ _ dX4_stateOf_37) rfl rfl
set_option maxHeartbeats 4000000 in
set_option maxRecDepth 100000 in
theorem c_X4_stateOf_2 (l : Launch) (D : DD) (n0 : Nat) (κ μ : KH) (o : Int64)  : HM l D n0 yX4_stateOf cX4_stateOf 2 (some (.object "ThinExtents$State")) 0 0 [.ref (n0 + 0), .int 2] (κ, μ, o) (some (.ref (n0 + 71))) (κ, μ, o) := by
  refine HM.of (by decide) (by simp [Value.category]) (by simp) (Or.inr (Or.inr ⟨_, _, rfl, rfl, Or.inr ⟨_, rfl⟩⟩)) ?_
  intro pp ee ss mm aa bb me cd Q C K hret
  show ZZ pp l ee (rmk 0 0) ss mm aa bb me cd D n0 127 2 0 0 Q _ 0 [some (.ref (n0 + 0)), some (.int 2)] []
  refine z_iload_n C rfl dX4_stateOf_0 ?_
  refine z_tableIn (tgt := 38) C dX4_stateOf_1 (by decide +kernel) (by decide +kernel) (off := 37) (by decide +kernel) (by decide) ?_
  refine z_aload_n C rfl dX4_stateOf_38 ?_
  refine gf_X4_19 C dX4_stateOf_39 ?_
  exact z_endA (hret _ _ dX4_stateOf_42) rfl rfl
set_option maxHeartbeats 4000000 in
set_option maxRecDepth 100000 in
theorem c_X4_stateOf_t (l : Launch) (hfl : l.stackTraces = false) (D : DD) (n0 : Nat) (κ μ : KH) (o : Int64) (s : Int32) (hs : s < 0 ∨ 2 < s) : HT l D n0 yX4_stateOf cX4_stateOf 2 (some (.object "ThinExtents$State")) 6 82 [.ref (n0 + 0), .int s] (κ, μ, o) cIA := by
  refine HT.of (by decide) (by simp [Value.category]) (by simp) ?_
  intro pp ee ss mm aa bb me cd C K hxt
  show ZZ pp l ee (rmx 6 82) ss mm aa bb me cd D n0 127 2 0 0 _ _ 0 [some (.ref (n0 + 0)), some (.int s)] []
  refine z_iload_n C rfl dX4_stateOf_0 ?_
  refine z_tableOut (tgt := 43) C dX4_stateOf_1 (sw_out 0 2 hs) (by decide) ?_
  exact z_throwW (σ0 := (κ, μ, o)) C K hfl hxt (E := cIA) (by decide +kernel) (by decide +kernel) th4_cIA th5_cIA rfl (List.mem_of_getElem? (i := 11) rfl) th1_cIA th2_cIA th3_cIA dX4_stateOf_43 dX4_stateOf_46 dX4_stateOf_47 dX4_stateOf_50 dX4_stateOf_53 ⟨by decide, by decide, by decide, by decide⟩
set_option maxHeartbeats 4000000 in
set_option maxRecDepth 100000 in
theorem c_X4_needsExtent (l : Launch) (D : DD) (n0 : Nat) (κ μ : KH) (o : Int64) (k q : Nat) (hk : isV k) (hq : q < 40) (hX : isX (κ (k + 1) q)) : HM l D n0 yX4_needsExtent cX4_needsExtent 3 (some .boolean) 2 42 [.ref (n0 + 0), .ref (n0 + k), .int (nI q)] (κ, μ, o) (some (.int (b2i (cNeed κ k q)))) (κ, μ, o) := by
  refine HM.of (by decide) (by simp [Value.category]) (by simp) (Or.inr (Or.inl ⟨_, .boolean, rfl, rfl, (b2i_nar _)⟩)) ?_
  intro pp ee ss mm aa bb me cd Q C K hret
  show ZZ pp l ee (rmk 2 42) ss mm aa bb me cd D n0 127 3 0 0 Q _ 0 [some (.ref (n0 + 0)), some (.ref (n0 + k)), some (.int (nI q))] []
  rcases hX with hm | ⟨a, ha, hm⟩
  · skip
    refine z_aload_n C rfl dX4_needsExtent_0 ?_
    refine gf_X4_27 C dX4_needsExtent_1 ?_
    refine z_aload_n C rfl dX4_needsExtent_4 ?_
    refine z_iload_n C rfl dX4_needsExtent_5 ?_
    refine z_callV (As := [.int (nI q)]) (r := (some (.int ((-1))))) (σ1 := (κ, μ, o)) (st := [.ref (n0 + 106)]) (st1 := [.int ((-1)), .ref (n0 + 106)]) C K ok_X4_83 (c_X3_extentOf l D n0 κ μ o k q ((-1)) hk (by omega) hm) (enc_V hk) (isV_lt hk) rfl rfl ⟨by decide, by decide⟩ ⟨Nat.zero_le _, Nat.zero_le _⟩ (by simp [Value.category]) dX4_needsExtent_6 rfl rfl ?_
    refine z_callV (As := [.int ((-1))]) (r := (some (.int 0))) (σ1 := (κ, μ, o)) (st := []) (st1 := [.int 0]) C K ok_X4_293 (c_X0_isSole_n l D n0 κ μ o) enc_P (by decide) rfl rfl ⟨by decide, by decide⟩ ⟨Nat.zero_le _, Nat.zero_le _⟩ (by simp [Value.category]) dX4_needsExtent_9 rfl rfl ?_
    refine z_if_ne (tgt := 19) C dX4_needsExtent_12 (by decide) (fun h_12 => ?_) (fun h_12 => ?_)
    · exact absurd h_12 (by decide +kernel)
    · skip
      refine z_iconst (v := 1) C (by decide +kernel) dX4_needsExtent_15 ?_
      refine z_goto (tgt := 20) C dX4_needsExtent_16 (by decide) ?_
      exact z_endI (hret _ _ dX4_needsExtent_20) (b2i_1 (by simp [cNeed, hm, cSol_m])) rfl
  · skip
    refine z_aload_n C rfl dX4_needsExtent_0 ?_
    refine gf_X4_27 C dX4_needsExtent_1 ?_
    refine z_aload_n C rfl dX4_needsExtent_4 ?_
    refine z_iload_n C rfl dX4_needsExtent_5 ?_
    refine z_callV (As := [.int (nI q)]) (r := (some (.int (nI a)))) (σ1 := (κ, μ, o)) (st := [.ref (n0 + 106)]) (st1 := [.int (nI a), .ref (n0 + 106)]) C K ok_X4_83 (c_X3_extentOf l D n0 κ μ o k q (nI a) hk (by omega) hm) (enc_V hk) (isV_lt hk) rfl rfl ⟨by decide, by decide⟩ ⟨Nat.zero_le _, Nat.zero_le _⟩ (by simp [Value.category]) dX4_needsExtent_6 rfl rfl ?_
    refine z_callV (As := [.int (nI a)]) (r := (some (.int (b2i (cSole κ a))))) (σ1 := (κ, μ, o)) (st := []) (st1 := [.int (b2i (cSole κ a))]) C K ok_X4_293 (c_X0_isSole l D n0 κ μ o a (by omega)) enc_P (by decide) rfl rfl ⟨by decide, by decide⟩ ⟨Nat.zero_le _, Nat.zero_le _⟩ (by simp [Value.category]) dX4_needsExtent_9 rfl rfl ?_
    refine z_if_ne (tgt := 19) C dX4_needsExtent_12 (by decide) (fun h_12 => ?_) (fun h_12 => ?_)
    · have g_12 := cv_b1 h_12
      refine z_iconst (v := 0) C (by decide +kernel) dX4_needsExtent_19 ?_
      exact z_endI (hret _ _ dX4_needsExtent_20) (b2i_0 (by simp [cNeed, hm, cSol_n ha, g_12])) rfl
    · have g_12 := cv_b0 h_12
      refine z_iconst (v := 1) C (by decide +kernel) dX4_needsExtent_15 ?_
      refine z_goto (tgt := 20) C dX4_needsExtent_16 (by decide) ?_
      exact z_endI (hret _ _ dX4_needsExtent_20) (b2i_1 (by simp [cNeed, hm, cSol_n ha, g_12])) rfl
set_option maxHeartbeats 4000000 in
set_option maxRecDepth 100000 in
theorem c_X4_isOver (l : Launch) (D : DD) (n0 : Nat) (κ μ : KH) (o : Int64) (k q : Nat) (hk : isV k) (hq : q < 40) : HM l D n0 yX4_isOver cX4_isOver 3 (some .boolean) 1 21 [.ref (n0 + 0), .ref (n0 + k), .int (nI q)] (κ, μ, o) (some (.int (b2i (cOver κ k q)))) (κ, μ, o) := by
  refine HM.of (by decide) (by simp [Value.category]) (by simp) (Or.inr (Or.inl ⟨_, .boolean, rfl, rfl, (b2i_nar _)⟩)) ?_
  intro pp ee ss mm aa bb me cd Q C K hret
  show ZZ pp l ee (rmk 1 21) ss mm aa bb me cd D n0 127 3 0 0 Q _ 0 [some (.ref (n0 + 0)), some (.ref (n0 + k)), some (.int (nI q))] []
  refine z_aload_n C rfl dX4_isOver_0 ?_
  refine z_iload_n C rfl dX4_isOver_1 ?_
  refine z_callV (As := [.int (nI q)]) (r := (some (.int (κ (k + 1) q)))) (σ1 := (κ, μ, o)) (st := []) (st1 := [.int (κ (k + 1) q)]) C K ok_X4_83 (c_X3_extentOf l D n0 κ μ o k q (κ (k + 1) q) hk (by omega) rfl) (enc_V hk) (isV_lt hk) rfl rfl ⟨by decide, by decide⟩ ⟨Nat.zero_le _, Nat.zero_le _⟩ (by simp [Value.category]) dX4_isOver_2 rfl rfl ?_
  refine z_iconst (v := (-1)) C (by decide +kernel) dX4_isOver_5 ?_
  refine z_icmp_ne (tgt := 32) C dX4_isOver_6 (by decide) (fun h_6 => ?_) (fun h_6 => ?_)
  · skip
    refine z_iconst (v := 0) C (by decide +kernel) dX4_isOver_32 ?_
    exact z_endI (hret _ _ dX4_isOver_33) (b2i_0 (by simp [cOver, h_6])) rfl
  · skip
    refine z_aload_n C rfl dX4_isOver_9 ?_
    refine gf_X4_80 (v := κ k 3) C hk rfl dX4_isOver_10 ?_
    refine z_iconst (v := (-1)) C (by decide +kernel) dX4_isOver_13 ?_
    refine z_icmp_eq (tgt := 32) C dX4_isOver_14 (by decide) (fun h_14 => ?_) (fun h_14 => ?_)
    · skip
      refine z_iconst (v := 0) C (by decide +kernel) dX4_isOver_32 ?_
      exact z_endI (hret _ _ dX4_isOver_33) (b2i_0 (by simp [cOver, h_14])) rfl
    · skip
      refine z_aload_n C rfl dX4_isOver_17 ?_
      refine gf_X4_91 (v := κ k 5) C hk rfl dX4_isOver_18 ?_
      refine z_aload_n C rfl dX4_isOver_21 ?_
      refine gf_X4_80 (v := κ k 3) C hk rfl dX4_isOver_22 ?_
      refine z_icmp_lt (tgt := 32) C dX4_isOver_25 (by decide) (fun h_25 => ?_) (fun h_25 => ?_)
      · skip
        refine z_iconst (v := 0) C (by decide +kernel) dX4_isOver_32 ?_
        exact z_endI (hret _ _ dX4_isOver_33) (b2i_0 (by simp [cOver, h_25])) rfl
      · skip
        refine z_iconst (v := 1) C (by decide +kernel) dX4_isOver_28 ?_
        refine z_goto (tgt := 33) C dX4_isOver_29 (by decide) ?_
        exact z_endI (hret _ _ dX4_isOver_33) (b2i_1 (by simp [cOver, h_6, h_14, h_25])) rfl
set_option maxHeartbeats 4000000 in
set_option maxRecDepth 100000 in
theorem c_X4_wordOf (l : Launch) (D : DD) (n0 : Nat) (κ μ : KH) (o : Int64) (k w : Nat) (hk : isV k) (hw : w < 160) (hX : isX (κ (k + 1) (w / 4))) : HM l D n0 yX4_wordOf cX4_wordOf 4 (some .int) 1 23 [.ref (n0 + 0), .ref (n0 + k), .int (nI w)] (κ, μ, o) (some (.int (cWord κ k w))) (κ, μ, o) := by
  refine HM.of (by decide) (by simp [Value.category]) (by simp) (Or.inr (Or.inl ⟨_, .int, rfl, rfl, rfl⟩)) ?_
  intro pp ee ss mm aa bb me cd Q C K hret
  show ZZ pp l ee (rmk 1 23) ss mm aa bb me cd D n0 127 4 0 0 Q _ 0 [some (.ref (n0 + 0)), some (.ref (n0 + k)), some (.int (nI w)), none] []
  rcases hX with hm | ⟨a, ha, hm⟩
  · skip
    refine z_aload_n C rfl dX4_wordOf_0 ?_
    refine z_iload_n C rfl dX4_wordOf_1 ?_
    refine z_iconst (v := 4) C (by decide +kernel) dX4_wordOf_2 ?_
    refine z_idiv (v := nI (w / 4)) C (by decide +kernel) (cv_div (by omega) (by decide) (by decide)) dX4_wordOf_3 ?_
    refine z_callV (As := [.int (nI (w / 4))]) (r := (some (.int ((-1))))) (σ1 := (κ, μ, o)) (st := []) (st1 := [.int ((-1))]) C K ok_X4_83 (c_X3_extentOf l D n0 κ μ o k (w / 4) ((-1)) hk (by omega) hm) (enc_V hk) (isV_lt hk) rfl rfl ⟨by decide, by decide⟩ ⟨Nat.zero_le _, Nat.zero_le _⟩ (by simp [Value.category]) dX4_wordOf_4 rfl rfl ?_
    refine z_istore_n (ls' := [some (.ref (n0 + 0)), some (.ref (n0 + k)), some (.int (nI w)), some (.int ((-1)))]) C (by decide) rfl dX4_wordOf_7 ?_
    refine z_iload_n C rfl dX4_wordOf_8 ?_
    refine z_iconst (v := (-1)) C (by decide +kernel) dX4_wordOf_9 ?_
    refine z_icmp_eq (tgt := 25) C dX4_wordOf_10 (by decide) (fun h_10 => ?_) (fun h_10 => ?_)
    · skip
      refine z_aload_n C rfl dX4_wordOf_25 ?_
      refine gf_X4_77 (v := κ k 1) C hk rfl dX4_wordOf_26 ?_
      refine z_if_eq (tgt := 54) C dX4_wordOf_29 (by decide) (fun h_29 => ?_) (fun h_29 => ?_)
      · skip
        refine z_iconst (v := 0) C (by decide +kernel) dX4_wordOf_54 ?_
        exact z_endI (hret _ _ dX4_wordOf_55) (by simp [cWord, hm, h_29]) rfl
      · skip
        refine z_iload_n C rfl dX4_wordOf_32 ?_
        refine z_if_lt (tgt := 54) C dX4_wordOf_33 (by decide) (fun h_33 => ?_) (fun h_33 => ?_)
        · exact absurd h_33 (nI_pos (by omega))
        · skip
          refine z_iload_n C rfl dX4_wordOf_36 ?_
          refine z_aload_n C rfl dX4_wordOf_37 ?_
          refine gf_X4_38 C dX4_wordOf_38 ?_
          refine an_112 C dX4_wordOf_41 ?_
          refine z_icmp_ge (tgt := 54) C dX4_wordOf_42 (by decide) (fun h_42 => ?_) (fun h_42 => ?_)
          · have g_42 := cv_le (a := 160) (b := w) (by omega) (by omega) h_42
            exact absurd g_42 (by omega)
          · have g_42 := cv_nle (a := 160) (b := w) (by omega) (by omega) h_42
            refine z_aload_n C rfl dX4_wordOf_45 ?_
            refine gf_X4_38 C dX4_wordOf_46 ?_
            refine z_iload_n C rfl dX4_wordOf_49 ?_
            refine al_112 (v := κ 112 w) C (w) rfl (by omega) rfl dX4_wordOf_50 ?_
            refine z_goto (tgt := 55) C dX4_wordOf_51 (by decide) ?_
            exact z_endI (hret _ _ dX4_wordOf_55) (by simp [cWord, hm, h_29]) rfl
    · exact absurd h_10 (by decide +kernel)
  · skip
    refine z_aload_n C rfl dX4_wordOf_0 ?_
    refine z_iload_n C rfl dX4_wordOf_1 ?_
    refine z_iconst (v := 4) C (by decide +kernel) dX4_wordOf_2 ?_
    refine z_idiv (v := nI (w / 4)) C (by decide +kernel) (cv_div (by omega) (by decide) (by decide)) dX4_wordOf_3 ?_
    refine z_callV (As := [.int (nI (w / 4))]) (r := (some (.int (nI a)))) (σ1 := (κ, μ, o)) (st := []) (st1 := [.int (nI a)]) C K ok_X4_83 (c_X3_extentOf l D n0 κ μ o k (w / 4) (nI a) hk (by omega) hm) (enc_V hk) (isV_lt hk) rfl rfl ⟨by decide, by decide⟩ ⟨Nat.zero_le _, Nat.zero_le _⟩ (by simp [Value.category]) dX4_wordOf_4 rfl rfl ?_
    refine z_istore_n (ls' := [some (.ref (n0 + 0)), some (.ref (n0 + k)), some (.int (nI w)), some (.int (nI a))]) C (by decide) rfl dX4_wordOf_7 ?_
    refine z_iload_n C rfl dX4_wordOf_8 ?_
    refine z_iconst (v := (-1)) C (by decide +kernel) dX4_wordOf_9 ?_
    refine z_icmp_eq (tgt := 25) C dX4_wordOf_10 (by decide) (fun h_10 => ?_) (fun h_10 => ?_)
    · exact absurd h_10 (nI_m1 (by omega))
    · skip
      refine z_aload_n C rfl dX4_wordOf_13 ?_
      refine gf_X4_27 C dX4_wordOf_14 ?_
      refine z_iload_n C rfl dX4_wordOf_17 ?_
      refine z_iload_n C rfl dX4_wordOf_18 ?_
      refine z_iconst (v := 4) C (by decide +kernel) dX4_wordOf_19 ?_
      refine z_irem (v := nI (w % 4)) C (by decide +kernel) (cv_rem (by omega) (by decide) (by decide)) dX4_wordOf_20 ?_
      refine z_callV (As := [.int (nI a), .int (nI (w % 4))]) (r := (some (.int (κ 107 (a * 4 + (w % 4)))))) (σ1 := (κ, μ, o)) (st := []) (st1 := [.int (κ 107 (a * 4 + (w % 4)))]) C K ok_X4_305 (c_X0_wordAt l D n0 κ μ o a (w % 4) (κ 107 (a * 4 + (w % 4))) (by omega) (by omega) rfl) enc_P (by decide) rfl rfl ⟨by decide, by decide⟩ ⟨Nat.zero_le _, Nat.zero_le _⟩ (by simp [Value.category]) dX4_wordOf_21 rfl rfl ?_
      exact z_endI (hret _ _ dX4_wordOf_24) (by simp [cWord, hm, nI_m1 (show a < 2 ^ 31 by omega), tn_nI (show a < 2 ^ 31 by omega)]) rfl
set_option maxHeartbeats 4000000 in
set_option maxRecDepth 100000 in
theorem c_X4_enqueue_n (l : Launch) (D : DD) (n0 : Nat) (κ μ : KH) (o : Int64) (v w x : Int32) (hn : κ 108 0 = nI 8) : HM l D n0 yX4_enqueue cX4_enqueue 4 (some .int) 1 23 [.ref (n0 + 0), .int v, .int w, .int x] (κ, μ, o) (some (.int ((-1)))) (κ, μ, o) := by
  refine HM.of (by decide) (by simp [Value.category]) (by simp) (Or.inr (Or.inl ⟨_, .int, rfl, rfl, rfl⟩)) ?_
  intro pp ee ss mm aa bb me cd Q C K hret
  show ZZ pp l ee (rmk 1 23) ss mm aa bb me cd D n0 127 4 0 0 Q _ 0 [some (.ref (n0 + 0)), some (.int v), some (.int w), some (.int x)] []
  refine z_aload_n C rfl dX4_enqueue_0 ?_
  refine gf_X4_34 C dX4_enqueue_1 ?_
  refine z_iload_n C rfl dX4_enqueue_4 ?_
  refine z_iload_n C rfl dX4_enqueue_5 ?_
  refine z_iload_n C rfl dX4_enqueue_6 ?_
  refine z_callV (As := [.int v, .int w, .int x]) (r := (some (.int 0))) (σ1 := (κ, μ, o)) (st := []) (st1 := [.int 0]) C K ok_X4_297 (c_X1_add_n l D n0 κ μ o v w x hn) enc_Q (by decide) rfl rfl ⟨by decide, by decide⟩ ⟨Nat.zero_le _, Nat.zero_le _⟩ (by simp [Value.category]) dX4_enqueue_7 rfl rfl ?_
  refine z_if_eq (tgt := 17) C dX4_enqueue_10 (by decide) (fun h_10 => ?_) (fun h_10 => ?_)
  · skip
    refine z_iconst (v := (-1)) C (by decide +kernel) dX4_enqueue_17 ?_
    exact z_endI (hret _ _ dX4_enqueue_18) rfl rfl
  · exact absurd h_10 (by decide +kernel)
set_option maxHeartbeats 4000000 in
set_option maxRecDepth 100000 in
theorem c_X4_enqueue (l : Launch) (D : DD) (n0 : Nat) (κ μ : KH) (o : Int64) (n : Nat) (v w x : Int32) (hn : κ 108 0 = nI n) (hn8 : n < 8) : HM l D n0 yX4_enqueue cX4_enqueue 4 (some .int) 2 47 [.ref (n0 + 0), .int v, .int w, .int x] (κ, μ, o) (some (.int 3)) (up (cPut κ n v w x) 108 0 (nI (n + 1)), μ, o) := by
  refine HM.of (by decide) (by simp [Value.category]) (by simp) (Or.inr (Or.inl ⟨_, .int, rfl, rfl, rfl⟩)) ?_
  intro pp ee ss mm aa bb me cd Q C K hret
  show ZZ pp l ee (rmk 2 47) ss mm aa bb me cd D n0 127 4 0 0 Q _ 0 [some (.ref (n0 + 0)), some (.int v), some (.int w), some (.int x)] []
  refine z_aload_n C rfl dX4_enqueue_0 ?_
  refine gf_X4_34 C dX4_enqueue_1 ?_
  refine z_iload_n C rfl dX4_enqueue_4 ?_
  refine z_iload_n C rfl dX4_enqueue_5 ?_
  refine z_iload_n C rfl dX4_enqueue_6 ?_
  refine z_callV (As := [.int v, .int w, .int x]) (r := (some (.int 1))) (σ1 := (up (cPut κ n v w x) 108 0 (nI (n + 1)), μ, o)) (st := []) (st1 := [.int 1]) C K ok_X4_297 (c_X1_add l D n0 κ μ o n v w x hn hn8) enc_Q (by decide) rfl rfl ⟨by decide, by decide⟩ ⟨Nat.zero_le _, Nat.zero_le _⟩ (by simp [Value.category]) dX4_enqueue_7 rfl rfl ?_
  refine z_if_eq (tgt := 17) C dX4_enqueue_10 (by decide) (fun h_10 => ?_) (fun h_10 => ?_)
  · exact absurd h_10 (by decide +kernel)
  · skip
    refine z_iconst (v := 3) C (by decide +kernel) dX4_enqueue_13 ?_
    refine z_goto (tgt := 18) C dX4_enqueue_14 (by decide) ?_
    exact z_endI (hret _ _ dX4_enqueue_18) rfl rfl
set_option maxHeartbeats 4000000 in
set_option maxRecDepth 100000 in
theorem c_X4_perform (l : Launch) (D : DD) (n0 : Nat) (κ μ : KH) (o : Int64) (k w : Nat) (x : Int32) (hk : isV k) (hw : w < 160) (hJ : cJ κ) (hf : cNeed κ k (w / 4) = true → cFM κ (nC κ) ≠ 0) : HM l D n0 yX4_perform cX4_perform 8 (some .int) 3 65 [.ref (n0 + 0), .ref (n0 + k), .int (nI w), .int x] (κ, μ, o) (some (.int (cPerR κ k w))) (cPerf κ k w x, μ, o) := by
  refine HM.of (by decide) (by simp [Value.category]) (by simp) (Or.inr (Or.inl ⟨_, .int, rfl, rfl, rfl⟩)) ?_
  intro pp ee ss mm aa bb me cd Q C K hret
  show ZZ pp l ee (rmk 3 65) ss mm aa bb me cd D n0 127 8 0 0 Q _ 0 [some (.ref (n0 + 0)), some (.ref (n0 + k)), some (.int (nI w)), some (.int x), none, none, none, none] []
  obtain ⟨hJ1, hJ2, hJ3, hJ4⟩ := id hJ
  have hn97 : nC κ < 97 := hJ1.2
  have hX := hJ4 k hk
  obtain ⟨o1, o2, o3, o4, o5, o6, o7, o8, o9, o10⟩ := isV_o hk
  refine z_iload_n C rfl dX4_perform_0 ?_
  refine z_iconst (v := 4) C (by decide +kernel) dX4_perform_1 ?_
  refine z_idiv (v := nI (w / 4)) C (by decide +kernel) (cv_div (by omega) (by decide) (by decide)) dX4_perform_2 ?_
  refine z_istore (ls' := [some (.ref (n0 + 0)), some (.ref (n0 + k)), some (.int (nI w)), some (.int x), some (.int (nI (w / 4))), none, none, none]) C (by decide) rfl dX4_perform_3 ?_
  rcases hX (w / 4) with hm | ⟨a, ha, hm⟩
  · skip
    refine z_aload_n C rfl dX4_perform_5 ?_
    refine z_iload C rfl dX4_perform_6 ?_
    refine z_callV (As := [.int (nI (w / 4))]) (r := (some (.int ((-1))))) (σ1 := (κ, μ, o)) (st := []) (st1 := [.int ((-1))]) C K ok_X4_83 (c_X3_extentOf l D n0 κ μ o k (w / 4) ((-1)) hk (by omega) hm) (enc_V hk) (isV_lt hk) rfl rfl ⟨by decide, by decide⟩ ⟨Nat.zero_le _, Nat.zero_le _⟩ (by simp [Value.category]) dX4_perform_8 rfl rfl ?_
    refine z_istore (ls' := [some (.ref (n0 + 0)), some (.ref (n0 + k)), some (.int (nI w)), some (.int x), some (.int (nI (w / 4))), some (.int ((-1))), none, none]) C (by decide) rfl dX4_perform_11 ?_
    refine z_aload_n C rfl dX4_perform_13 ?_
    refine gf_X4_27 C dX4_perform_14 ?_
    refine z_iload C rfl dX4_perform_17 ?_
    refine z_callV (As := [.int ((-1))]) (r := (some (.int 0))) (σ1 := (κ, μ, o)) (st := []) (st1 := [.int 0]) C K ok_X4_293 (c_X0_isSole_n l D n0 κ μ o) enc_P (by decide) rfl rfl ⟨by decide, by decide⟩ ⟨Nat.zero_le _, Nat.zero_le _⟩ (by simp [Value.category]) dX4_perform_19 rfl rfl ?_
    refine z_if_eq (tgt := 40) C dX4_perform_22 (by decide) (fun h_22 => ?_) (fun h_22 => ?_)
    · skip
      have hns : cSol κ (κ (k + 1) (w / 4)) = false := by rw [hm, cSol_m]
      have hf0 : cFM κ (nC κ) ≠ 0 := hf (by unfold cNeed; rw [hns]; rfl)
      obtain ⟨hte, hrr, hfr⟩ := cTkE_ok hJ hf0
      have hte9 : cTkE κ < 96 := by omega
      refine z_aload_n C rfl dX4_perform_40 ?_
      refine gf_X4_27 C dX4_perform_41 ?_
      refine z_callV (As := []) (r := (some (.int (nI (cTkE κ))))) (σ1 := (cTk κ (nC κ) (cTkE κ), μ, o)) (st := []) (st1 := [.int (nI (cTkE κ))]) C K ok_X4_302 (c_X0_take l D n0 κ μ o (nC κ) (cTkE κ) hJ1.1 (by omega) hJ3.1 hJ3.2 hrr rfl) enc_P (by decide) rfl rfl ⟨by decide, by decide⟩ ⟨Nat.zero_le _, Nat.zero_le _⟩ (by simp [Value.category]) dX4_perform_44 rfl rfl ?_
      refine z_istore (ls' := [some (.ref (n0 + 0)), some (.ref (n0 + k)), some (.int (nI w)), some (.int x), some (.int (nI (w / 4))), some (.int ((-1))), some (.int (nI (cTkE κ))), none]) C (by decide) rfl dX4_perform_47 ?_
      refine z_iload C rfl dX4_perform_49 ?_
      refine z_iconst (v := (-1)) C (by decide +kernel) dX4_perform_51 ?_
      refine z_icmp_ne (tgt := 57) C dX4_perform_52 (by decide) (fun h_52 => ?_) (fun h_52 => ?_)
      · skip
        refine z_iconst (v := 0) C (by decide +kernel) dX4_perform_57 ?_
        refine z_istore (ls' := [some (.ref (n0 + 0)), some (.ref (n0 + k)), some (.int (nI w)), some (.int x), some (.int (nI (w / 4))), some (.int ((-1))), some (.int (nI (cTkE κ))), some (.int 0)]) C (by decide) rfl dX4_perform_58 ?_
        refine z_cast (σ1 := (iterK (cCw1 k (w / 4) (cTkE κ)) 0 (cTk κ (nC κ) (cTkE κ)), μ, o)) (ls' := [some (.ref (n0 + 0)), some (.ref (n0 + k)), some (.int (nI w)), some (.int x), some (.int (nI (w / 4))), some (.int ((-1))), some (.int (nI (cTkE κ))), some (.int (nI 0))]) (st' := []) (z_for (P := fun i => ZZ pp l ee (rmk 3 65) ss mm aa bb me cd D n0 127 8 0 0 Q (iterK (cCw1 k (w / 4) (cTkE κ)) i (cTk κ (nC κ) (cTkE κ)), μ, o) 60 [some (.ref (n0 + 0)), some (.ref (n0 + k)), some (.int (nI w)), some (.int x), some (.int (nI (w / 4))), some (.int ((-1))), some (.int (nI (cTkE κ))), some (.int (nI i))] []) (4) ?_ ?_ 0 (Nat.zero_le _)) rfl ⟨rfl, rfl, rfl, rfl, rfl, rfl, rfl, rfl, trivial⟩ rfl
        · skip
          refine z_iload C rfl dX4_perform_60 ?_
          refine z_iconst (v := 4) C (by decide +kernel) dX4_perform_62 ?_
          refine z_icmp_ge (tgt := 95) C dX4_perform_63 (by decide) (fun h_63 => ?_) (fun h_63 => ?_)
          · have g_63 := cv_le (a := 4) (b := 4) (by omega) (by omega) h_63
            refine z_aload_n C rfl dX4_perform_95 ?_
            refine gf_X4_27 C dX4_perform_96 ?_
            refine z_iload C rfl dX4_perform_99 ?_
            refine z_iload_n C rfl dX4_perform_101 ?_
            refine z_iconst (v := 4) C (by decide +kernel) dX4_perform_102 ?_
            refine z_irem (v := nI (w % 4)) C (by decide +kernel) (cv_rem (by omega) (by decide) (by decide)) dX4_perform_103 ?_
            refine z_iload_n C rfl dX4_perform_104 ?_
            refine z_callV (As := [.int (nI (cTkE κ)), .int (nI (w % 4)), .int x]) (r := none) (σ1 := (cPm0 κ k w x (cTkE κ), μ, o)) (st := []) (st1 := []) C K ok_X4_299 (c_X0_setWord l D n0 (iterK (cCw1 k (w / 4) (cTkE κ)) 4 (cTk κ (nC κ) (cTkE κ))) μ o (cTkE κ) (w % 4) x (by omega) (by omega)) enc_P (by decide) rfl rfl ⟨by decide, by decide⟩ ⟨Nat.zero_le _, Nat.zero_le _⟩ (by simp [Value.category]) dX4_perform_105 rfl rfl ?_
            have hp0 : ∀ q, cPm0 κ k w x (cTkE κ) (k + 1) q = κ (k + 1) q := fun q => by rw [cPm0_o o7 o8]
            refine z_aload_n C rfl dX4_perform_108 ?_
            refine gf_X4_10 C dX4_perform_109 ?_
            refine z_aload_n C rfl dX4_perform_112 ?_
            refine z_iload C rfl dX4_perform_113 ?_
            refine z_iload C rfl dX4_perform_115 ?_
            refine z_callV (As := [.ref (n0 + k), .int (nI (w / 4)), .int (nI (cTkE κ))]) (r := none) (σ1 := (cPm1 κ k w x, μ, o)) (st := []) (st1 := []) C K ok_X4_87 (c_X2_setExtent l D n0 (cPm0 κ k w x (cTkE κ)) μ o 1 k (w / 4) (nI (cTkE κ)) okS1 hk (by omega) (by rw [hp0]; exact hX _) (Or.inr ⟨_, hte9, rfl⟩)) (enc_S (Or.inl rfl)) (isS_lt (Or.inl rfl)) rfl rfl ⟨by decide, by decide⟩ ⟨Nat.zero_le _, Nat.zero_le _⟩ (by simp [Value.category]) dX4_perform_117 rfl rfl ?_
            refine z_aload_n C rfl dX4_perform_120 ?_
            refine gf_X4_27 C dX4_perform_121 ?_
            refine z_callV (As := []) (r := (some (.int (nI (cFM (cPm1 κ k w x) ((nC κ))))))) (σ1 := (cPm1 κ k w x, μ, o)) (st := []) (st1 := [.int (nI (cFM (cPm1 κ k w x) ((nC κ))))]) C K ok_X4_264 (c_X0_countFree l D n0 (cPm1 κ k w x) μ o (nC κ) ((cPm1_106 hk (by decide) (by decide)).trans hJ1.1) (by omega)) enc_P (by decide) rfl rfl ⟨by decide, by decide⟩ ⟨Nat.zero_le _, Nat.zero_le _⟩ (by simp [Value.category]) dX4_perform_124 rfl rfl ?_
            refine z_aload_n C rfl dX4_perform_127 ?_
            refine gf_X4_27 C dX4_perform_128 ?_
            refine gf_X4_215 (v := cPm1 κ k w x 106 2) C rfl dX4_perform_131 ?_
            refine z_icmp_ne (tgt := 150) C dX4_perform_134 (by decide) (fun h_134 => ?_) (fun h_134 => ?_)
            · skip
              refine z_iload C rfl dX4_perform_150 ?_
              refine z_iconst (v := (-1)) C (by decide +kernel) dX4_perform_152 ?_
              refine z_icmp_ne (tgt := 160) C dX4_perform_153 (by decide) (fun h_153 => ?_) (fun h_153 => ?_)
              · exact absurd rfl h_153
              · skip
                refine z_iconst (v := 1) C (by decide +kernel) dX4_perform_156 ?_
                refine z_goto (tgt := 161) C dX4_perform_157 (by decide) ?_
                exact z_endI (hret _ _ dX4_perform_161) (by unfold cPerR; rw [if_neg (by rw [hns]; decide), hm, if_pos rfl]) (st_k (by unfold cPerf cPm2; rw [if_neg (by rw [hns]; decide), if_neg h_134]))
            · skip
              refine z_aload_n C rfl dX4_perform_137 ?_
              refine gf_X4_27 C dX4_perform_138 ?_
              refine z_dup C rfl dX4_perform_141 ?_
              refine gf_X4_268 (v := cPm1 κ k w x 106 3) C rfl dX4_perform_142 ?_
              refine z_iconst (v := 1) C (by decide +kernel) dX4_perform_145 ?_
              refine z_iadd (v := (cPm1 κ k w x 106 3) + 1) C rfl dX4_perform_146 ?_
              refine pf_X4_268 (x := (cPm1 κ k w x 106 3) + 1) C dX4_perform_147 ?_
              refine z_iload C rfl dX4_perform_150 ?_
              refine z_iconst (v := (-1)) C (by decide +kernel) dX4_perform_152 ?_
              refine z_icmp_ne (tgt := 160) C dX4_perform_153 (by decide) (fun h_153 => ?_) (fun h_153 => ?_)
              · exact absurd rfl h_153
              · skip
                refine z_iconst (v := 1) C (by decide +kernel) dX4_perform_156 ?_
                refine z_goto (tgt := 161) C dX4_perform_157 (by decide) ?_
                exact z_endI (hret _ _ dX4_perform_161) (by unfold cPerR; rw [if_neg (by rw [hns]; decide), hm, if_pos rfl]) (st_k (by unfold cPerf cPm2; rw [if_neg (by rw [hns]; decide), if_pos h_134]))
          · have g_63 := cv_nle (a := 4) (b := 4) (by omega) (by omega) h_63
            exact absurd g_63 (by omega)
        · intro i hi_60 ih_60
          refine z_iload C rfl dX4_perform_60 ?_
          refine z_iconst (v := 4) C (by decide +kernel) dX4_perform_62 ?_
          refine z_icmp_ge (tgt := 95) C dX4_perform_63 (by decide) (fun h_63 => ?_) (fun h_63 => ?_)
          · have g_63 := cv_le (a := 4) (b := i) (by omega) (by omega) h_63
            exact absurd hi_60 (by omega)
          · have g_63 := cv_nle (a := 4) (b := i) (by omega) (by omega) h_63
            refine z_aload_n C rfl dX4_perform_66 ?_
            refine gf_X4_27 C dX4_perform_67 ?_
            refine z_iload C rfl dX4_perform_70 ?_
            refine z_iload C rfl dX4_perform_72 ?_
            refine z_aload_n C rfl dX4_perform_74 ?_
            refine z_aload_n C rfl dX4_perform_75 ?_
            refine z_iload C rfl dX4_perform_76 ?_
            refine z_iconst (v := 4) C (by decide +kernel) dX4_perform_78 ?_
            refine z_imul (v := nI ((w / 4) * 4)) C (cv_mul (w / 4) 4) dX4_perform_79 ?_
            refine z_iload C rfl dX4_perform_80 ?_
            refine z_iadd (v := nI ((w / 4) * 4 + i)) C (cv_add ((w / 4) * 4) i) dX4_perform_82 ?_
            refine z_callV (As := [.ref (n0 + k), .int (nI ((w / 4) * 4 + i))]) (r := (some (.int (cWord (iterK (cCw1 k (w / 4) (cTkE κ)) i (cTk κ (nC κ) (cTkE κ))) k ((w / 4) * 4 + i))))) (σ1 := (iterK (cCw1 k (w / 4) (cTkE κ)) i (cTk κ (nC κ) (cTkE κ)), μ, o)) (st := [.int (nI i), .int (nI (cTkE κ)), .ref (n0 + 106)]) (st1 := [.int (cWord (iterK (cCw1 k (w / 4) (cTkE κ)) i (cTk κ (nC κ) (cTkE κ))) k ((w / 4) * 4 + i)), .int (nI i), .int (nI (cTkE κ)), .ref (n0 + 106)]) C K ok_X4_144 (c_X4_wordOf l D n0 (iterK (cCw1 k (w / 4) (cTkE κ)) i (cTk κ (nC κ) (cTkE κ))) μ o k ((w / 4) * 4 + i) hk (by omega) (by rw [cCw_o o8, cTk_o o7]; exact hX _)) enc_0 (by decide) rfl rfl ⟨by decide, by decide⟩ ⟨Nat.zero_le _, Nat.zero_le _⟩ (by simp [Value.category]) dX4_perform_83 rfl rfl ?_
            refine z_callV (As := [.int (nI (cTkE κ)), .int (nI i), .int (cWord (iterK (cCw1 k (w / 4) (cTkE κ)) i (cTk κ (nC κ) (cTkE κ))) k ((w / 4) * 4 + i))]) (r := none) (σ1 := (up (iterK (cCw1 k (w / 4) (cTkE κ)) i (cTk κ (nC κ) (cTkE κ))) 107 ((cTkE κ) * 4 + i) (cWord (iterK (cCw1 k (w / 4) (cTkE κ)) i (cTk κ (nC κ) (cTkE κ))) k ((w / 4) * 4 + i)), μ, o)) (st := []) (st1 := []) C K ok_X4_299 (c_X0_setWord l D n0 (iterK (cCw1 k (w / 4) (cTkE κ)) i (cTk κ (nC κ) (cTkE κ))) μ o (cTkE κ) i (cWord (iterK (cCw1 k (w / 4) (cTkE κ)) i (cTk κ (nC κ) (cTkE κ))) k ((w / 4) * 4 + i)) (by omega) (by omega)) enc_P (by decide) rfl rfl ⟨by decide, by decide⟩ ⟨Nat.zero_le _, Nat.zero_le _⟩ (by simp [Value.category]) dX4_perform_86 rfl rfl ?_
            refine z_iinc (v := nI (i + 1)) (ls' := [some (.ref (n0 + 0)), some (.ref (n0 + k)), some (.int (nI w)), some (.int x), some (.int (nI (w / 4))), some (.int ((-1))), some (.int (nI (cTkE κ))), some (.int (nI (i + 1)))]) C rfl (cv_inc i 1) (by decide) rfl dX4_perform_89 ?_
            refine z_goto (tgt := 60) C dX4_perform_92 (by decide) ?_
            exact z_cast (σ1 := (iterK (cCw1 k (w / 4) (cTkE κ)) (i + 1) (cTk κ (nC κ) (cTkE κ)), μ, o)) (ls' := [some (.ref (n0 + 0)), some (.ref (n0 + k)), some (.int (nI w)), some (.int x), some (.int (nI (w / 4))), some (.int ((-1))), some (.int (nI (cTkE κ))), some (.int (nI (i + 1)))]) (st' := []) (ih_60) rfl ⟨rfl, rfl, rfl, rfl, rfl, rfl, rfl, rfl, trivial⟩ rfl
      · exact absurd h_52 (nI_m1 (by omega))
    · exact absurd h_22 (by decide +kernel)
  · skip
    refine z_aload_n C rfl dX4_perform_5 ?_
    refine z_iload C rfl dX4_perform_6 ?_
    refine z_callV (As := [.int (nI (w / 4))]) (r := (some (.int (nI a)))) (σ1 := (κ, μ, o)) (st := []) (st1 := [.int (nI a)]) C K ok_X4_83 (c_X3_extentOf l D n0 κ μ o k (w / 4) (nI a) hk (by omega) hm) (enc_V hk) (isV_lt hk) rfl rfl ⟨by decide, by decide⟩ ⟨Nat.zero_le _, Nat.zero_le _⟩ (by simp [Value.category]) dX4_perform_8 rfl rfl ?_
    refine z_istore (ls' := [some (.ref (n0 + 0)), some (.ref (n0 + k)), some (.int (nI w)), some (.int x), some (.int (nI (w / 4))), some (.int (nI a)), none, none]) C (by decide) rfl dX4_perform_11 ?_
    refine z_aload_n C rfl dX4_perform_13 ?_
    refine gf_X4_27 C dX4_perform_14 ?_
    refine z_iload C rfl dX4_perform_17 ?_
    refine z_callV (As := [.int (nI a)]) (r := (some (.int (b2i (cSole κ a))))) (σ1 := (κ, μ, o)) (st := []) (st1 := [.int (b2i (cSole κ a))]) C K ok_X4_293 (c_X0_isSole l D n0 κ μ o a (by omega)) enc_P (by decide) rfl rfl ⟨by decide, by decide⟩ ⟨Nat.zero_le _, Nat.zero_le _⟩ (by simp [Value.category]) dX4_perform_19 rfl rfl ?_
    refine z_if_eq (tgt := 40) C dX4_perform_22 (by decide) (fun h_22 => ?_) (fun h_22 => ?_)
    · have g_22 := cv_b0 h_22
      have hns : cSol κ (κ (k + 1) (w / 4)) = false := by rw [hm, cSol_n ha, g_22]
      have hf0 : cFM κ (nC κ) ≠ 0 := hf (by unfold cNeed; rw [hns]; rfl)
      obtain ⟨hte, hrr, hfr⟩ := cTkE_ok hJ hf0
      have hte9 : cTkE κ < 96 := by omega
      refine z_aload_n C rfl dX4_perform_40 ?_
      refine gf_X4_27 C dX4_perform_41 ?_
      refine z_callV (As := []) (r := (some (.int (nI (cTkE κ))))) (σ1 := (cTk κ (nC κ) (cTkE κ), μ, o)) (st := []) (st1 := [.int (nI (cTkE κ))]) C K ok_X4_302 (c_X0_take l D n0 κ μ o (nC κ) (cTkE κ) hJ1.1 (by omega) hJ3.1 hJ3.2 hrr rfl) enc_P (by decide) rfl rfl ⟨by decide, by decide⟩ ⟨Nat.zero_le _, Nat.zero_le _⟩ (by simp [Value.category]) dX4_perform_44 rfl rfl ?_
      refine z_istore (ls' := [some (.ref (n0 + 0)), some (.ref (n0 + k)), some (.int (nI w)), some (.int x), some (.int (nI (w / 4))), some (.int (nI a)), some (.int (nI (cTkE κ))), none]) C (by decide) rfl dX4_perform_47 ?_
      refine z_iload C rfl dX4_perform_49 ?_
      refine z_iconst (v := (-1)) C (by decide +kernel) dX4_perform_51 ?_
      refine z_icmp_ne (tgt := 57) C dX4_perform_52 (by decide) (fun h_52 => ?_) (fun h_52 => ?_)
      · skip
        refine z_iconst (v := 0) C (by decide +kernel) dX4_perform_57 ?_
        refine z_istore (ls' := [some (.ref (n0 + 0)), some (.ref (n0 + k)), some (.int (nI w)), some (.int x), some (.int (nI (w / 4))), some (.int (nI a)), some (.int (nI (cTkE κ))), some (.int 0)]) C (by decide) rfl dX4_perform_58 ?_
        refine z_cast (σ1 := (iterK (cCw1 k (w / 4) (cTkE κ)) 0 (cTk κ (nC κ) (cTkE κ)), μ, o)) (ls' := [some (.ref (n0 + 0)), some (.ref (n0 + k)), some (.int (nI w)), some (.int x), some (.int (nI (w / 4))), some (.int (nI a)), some (.int (nI (cTkE κ))), some (.int (nI 0))]) (st' := []) (z_for (P := fun i => ZZ pp l ee (rmk 3 65) ss mm aa bb me cd D n0 127 8 0 0 Q (iterK (cCw1 k (w / 4) (cTkE κ)) i (cTk κ (nC κ) (cTkE κ)), μ, o) 60 [some (.ref (n0 + 0)), some (.ref (n0 + k)), some (.int (nI w)), some (.int x), some (.int (nI (w / 4))), some (.int (nI a)), some (.int (nI (cTkE κ))), some (.int (nI i))] []) (4) ?_ ?_ 0 (Nat.zero_le _)) rfl ⟨rfl, rfl, rfl, rfl, rfl, rfl, rfl, rfl, trivial⟩ rfl
        · skip
          refine z_iload C rfl dX4_perform_60 ?_
          refine z_iconst (v := 4) C (by decide +kernel) dX4_perform_62 ?_
          refine z_icmp_ge (tgt := 95) C dX4_perform_63 (by decide) (fun h_63 => ?_) (fun h_63 => ?_)
          · have g_63 := cv_le (a := 4) (b := 4) (by omega) (by omega) h_63
            refine z_aload_n C rfl dX4_perform_95 ?_
            refine gf_X4_27 C dX4_perform_96 ?_
            refine z_iload C rfl dX4_perform_99 ?_
            refine z_iload_n C rfl dX4_perform_101 ?_
            refine z_iconst (v := 4) C (by decide +kernel) dX4_perform_102 ?_
            refine z_irem (v := nI (w % 4)) C (by decide +kernel) (cv_rem (by omega) (by decide) (by decide)) dX4_perform_103 ?_
            refine z_iload_n C rfl dX4_perform_104 ?_
            refine z_callV (As := [.int (nI (cTkE κ)), .int (nI (w % 4)), .int x]) (r := none) (σ1 := (cPm0 κ k w x (cTkE κ), μ, o)) (st := []) (st1 := []) C K ok_X4_299 (c_X0_setWord l D n0 (iterK (cCw1 k (w / 4) (cTkE κ)) 4 (cTk κ (nC κ) (cTkE κ))) μ o (cTkE κ) (w % 4) x (by omega) (by omega)) enc_P (by decide) rfl rfl ⟨by decide, by decide⟩ ⟨Nat.zero_le _, Nat.zero_le _⟩ (by simp [Value.category]) dX4_perform_105 rfl rfl ?_
            have hp0 : ∀ q, cPm0 κ k w x (cTkE κ) (k + 1) q = κ (k + 1) q := fun q => by rw [cPm0_o o7 o8]
            refine z_aload_n C rfl dX4_perform_108 ?_
            refine gf_X4_10 C dX4_perform_109 ?_
            refine z_aload_n C rfl dX4_perform_112 ?_
            refine z_iload C rfl dX4_perform_113 ?_
            refine z_iload C rfl dX4_perform_115 ?_
            refine z_callV (As := [.ref (n0 + k), .int (nI (w / 4)), .int (nI (cTkE κ))]) (r := none) (σ1 := (cPm1 κ k w x, μ, o)) (st := []) (st1 := []) C K ok_X4_87 (c_X2_setExtent l D n0 (cPm0 κ k w x (cTkE κ)) μ o 1 k (w / 4) (nI (cTkE κ)) okS1 hk (by omega) (by rw [hp0]; exact hX _) (Or.inr ⟨_, hte9, rfl⟩)) (enc_S (Or.inl rfl)) (isS_lt (Or.inl rfl)) rfl rfl ⟨by decide, by decide⟩ ⟨Nat.zero_le _, Nat.zero_le _⟩ (by simp [Value.category]) dX4_perform_117 rfl rfl ?_
            refine z_aload_n C rfl dX4_perform_120 ?_
            refine gf_X4_27 C dX4_perform_121 ?_
            refine z_callV (As := []) (r := (some (.int (nI (cFM (cPm1 κ k w x) ((nC κ))))))) (σ1 := (cPm1 κ k w x, μ, o)) (st := []) (st1 := [.int (nI (cFM (cPm1 κ k w x) ((nC κ))))]) C K ok_X4_264 (c_X0_countFree l D n0 (cPm1 κ k w x) μ o (nC κ) ((cPm1_106 hk (by decide) (by decide)).trans hJ1.1) (by omega)) enc_P (by decide) rfl rfl ⟨by decide, by decide⟩ ⟨Nat.zero_le _, Nat.zero_le _⟩ (by simp [Value.category]) dX4_perform_124 rfl rfl ?_
            refine z_aload_n C rfl dX4_perform_127 ?_
            refine gf_X4_27 C dX4_perform_128 ?_
            refine gf_X4_215 (v := cPm1 κ k w x 106 2) C rfl dX4_perform_131 ?_
            refine z_icmp_ne (tgt := 150) C dX4_perform_134 (by decide) (fun h_134 => ?_) (fun h_134 => ?_)
            · skip
              refine z_iload C rfl dX4_perform_150 ?_
              refine z_iconst (v := (-1)) C (by decide +kernel) dX4_perform_152 ?_
              refine z_icmp_ne (tgt := 160) C dX4_perform_153 (by decide) (fun h_153 => ?_) (fun h_153 => ?_)
              · skip
                refine z_iconst (v := 2) C (by decide +kernel) dX4_perform_160 ?_
                exact z_endI (hret _ _ dX4_perform_161) (by unfold cPerR; rw [if_neg (by rw [hns]; decide), hm, if_neg (nI_m1 (by omega))]) (st_k (by unfold cPerf cPm2; rw [if_neg (by rw [hns]; decide), if_neg h_134]))
              · exact absurd h_153 (nI_m1 (by omega))
            · skip
              refine z_aload_n C rfl dX4_perform_137 ?_
              refine gf_X4_27 C dX4_perform_138 ?_
              refine z_dup C rfl dX4_perform_141 ?_
              refine gf_X4_268 (v := cPm1 κ k w x 106 3) C rfl dX4_perform_142 ?_
              refine z_iconst (v := 1) C (by decide +kernel) dX4_perform_145 ?_
              refine z_iadd (v := (cPm1 κ k w x 106 3) + 1) C rfl dX4_perform_146 ?_
              refine pf_X4_268 (x := (cPm1 κ k w x 106 3) + 1) C dX4_perform_147 ?_
              refine z_iload C rfl dX4_perform_150 ?_
              refine z_iconst (v := (-1)) C (by decide +kernel) dX4_perform_152 ?_
              refine z_icmp_ne (tgt := 160) C dX4_perform_153 (by decide) (fun h_153 => ?_) (fun h_153 => ?_)
              · skip
                refine z_iconst (v := 2) C (by decide +kernel) dX4_perform_160 ?_
                exact z_endI (hret _ _ dX4_perform_161) (by unfold cPerR; rw [if_neg (by rw [hns]; decide), hm, if_neg (nI_m1 (by omega))]) (st_k (by unfold cPerf cPm2; rw [if_neg (by rw [hns]; decide), if_pos h_134]))
              · exact absurd h_153 (nI_m1 (by omega))
          · have g_63 := cv_nle (a := 4) (b := 4) (by omega) (by omega) h_63
            exact absurd g_63 (by omega)
        · intro i hi_60 ih_60
          refine z_iload C rfl dX4_perform_60 ?_
          refine z_iconst (v := 4) C (by decide +kernel) dX4_perform_62 ?_
          refine z_icmp_ge (tgt := 95) C dX4_perform_63 (by decide) (fun h_63 => ?_) (fun h_63 => ?_)
          · have g_63 := cv_le (a := 4) (b := i) (by omega) (by omega) h_63
            exact absurd hi_60 (by omega)
          · have g_63 := cv_nle (a := 4) (b := i) (by omega) (by omega) h_63
            refine z_aload_n C rfl dX4_perform_66 ?_
            refine gf_X4_27 C dX4_perform_67 ?_
            refine z_iload C rfl dX4_perform_70 ?_
            refine z_iload C rfl dX4_perform_72 ?_
            refine z_aload_n C rfl dX4_perform_74 ?_
            refine z_aload_n C rfl dX4_perform_75 ?_
            refine z_iload C rfl dX4_perform_76 ?_
            refine z_iconst (v := 4) C (by decide +kernel) dX4_perform_78 ?_
            refine z_imul (v := nI ((w / 4) * 4)) C (cv_mul (w / 4) 4) dX4_perform_79 ?_
            refine z_iload C rfl dX4_perform_80 ?_
            refine z_iadd (v := nI ((w / 4) * 4 + i)) C (cv_add ((w / 4) * 4) i) dX4_perform_82 ?_
            refine z_callV (As := [.ref (n0 + k), .int (nI ((w / 4) * 4 + i))]) (r := (some (.int (cWord (iterK (cCw1 k (w / 4) (cTkE κ)) i (cTk κ (nC κ) (cTkE κ))) k ((w / 4) * 4 + i))))) (σ1 := (iterK (cCw1 k (w / 4) (cTkE κ)) i (cTk κ (nC κ) (cTkE κ)), μ, o)) (st := [.int (nI i), .int (nI (cTkE κ)), .ref (n0 + 106)]) (st1 := [.int (cWord (iterK (cCw1 k (w / 4) (cTkE κ)) i (cTk κ (nC κ) (cTkE κ))) k ((w / 4) * 4 + i)), .int (nI i), .int (nI (cTkE κ)), .ref (n0 + 106)]) C K ok_X4_144 (c_X4_wordOf l D n0 (iterK (cCw1 k (w / 4) (cTkE κ)) i (cTk κ (nC κ) (cTkE κ))) μ o k ((w / 4) * 4 + i) hk (by omega) (by rw [cCw_o o8, cTk_o o7]; exact hX _)) enc_0 (by decide) rfl rfl ⟨by decide, by decide⟩ ⟨Nat.zero_le _, Nat.zero_le _⟩ (by simp [Value.category]) dX4_perform_83 rfl rfl ?_
            refine z_callV (As := [.int (nI (cTkE κ)), .int (nI i), .int (cWord (iterK (cCw1 k (w / 4) (cTkE κ)) i (cTk κ (nC κ) (cTkE κ))) k ((w / 4) * 4 + i))]) (r := none) (σ1 := (up (iterK (cCw1 k (w / 4) (cTkE κ)) i (cTk κ (nC κ) (cTkE κ))) 107 ((cTkE κ) * 4 + i) (cWord (iterK (cCw1 k (w / 4) (cTkE κ)) i (cTk κ (nC κ) (cTkE κ))) k ((w / 4) * 4 + i)), μ, o)) (st := []) (st1 := []) C K ok_X4_299 (c_X0_setWord l D n0 (iterK (cCw1 k (w / 4) (cTkE κ)) i (cTk κ (nC κ) (cTkE κ))) μ o (cTkE κ) i (cWord (iterK (cCw1 k (w / 4) (cTkE κ)) i (cTk κ (nC κ) (cTkE κ))) k ((w / 4) * 4 + i)) (by omega) (by omega)) enc_P (by decide) rfl rfl ⟨by decide, by decide⟩ ⟨Nat.zero_le _, Nat.zero_le _⟩ (by simp [Value.category]) dX4_perform_86 rfl rfl ?_
            refine z_iinc (v := nI (i + 1)) (ls' := [some (.ref (n0 + 0)), some (.ref (n0 + k)), some (.int (nI w)), some (.int x), some (.int (nI (w / 4))), some (.int (nI a)), some (.int (nI (cTkE κ))), some (.int (nI (i + 1)))]) C rfl (cv_inc i 1) (by decide) rfl dX4_perform_89 ?_
            refine z_goto (tgt := 60) C dX4_perform_92 (by decide) ?_
            exact z_cast (σ1 := (iterK (cCw1 k (w / 4) (cTkE κ)) (i + 1) (cTk κ (nC κ) (cTkE κ)), μ, o)) (ls' := [some (.ref (n0 + 0)), some (.ref (n0 + k)), some (.int (nI w)), some (.int x), some (.int (nI (w / 4))), some (.int (nI a)), some (.int (nI (cTkE κ))), some (.int (nI (i + 1)))]) (st' := []) (ih_60) rfl ⟨rfl, rfl, rfl, rfl, rfl, rfl, rfl, rfl, trivial⟩ rfl
      · exact absurd h_52 (nI_m1 (by omega))
    · have g_22 := cv_b1 h_22
      refine z_aload_n C rfl dX4_perform_25 ?_
      refine gf_X4_27 C dX4_perform_26 ?_
      refine z_iload C rfl dX4_perform_29 ?_
      refine z_iload_n C rfl dX4_perform_31 ?_
      refine z_iconst (v := 4) C (by decide +kernel) dX4_perform_32 ?_
      refine z_irem (v := nI (w % 4)) C (by decide +kernel) (cv_rem (by omega) (by decide) (by decide)) dX4_perform_33 ?_
      refine z_iload_n C rfl dX4_perform_34 ?_
      refine z_callV (As := [.int (nI a), .int (nI (w % 4)), .int x]) (r := none) (σ1 := (up κ 107 (a * 4 + (w % 4)) x, μ, o)) (st := []) (st1 := []) C K ok_X4_299 (c_X0_setWord l D n0 κ μ o a (w % 4) x (by omega) (by omega)) enc_P (by decide) rfl rfl ⟨by decide, by decide⟩ ⟨Nat.zero_le _, Nat.zero_le _⟩ (by simp [Value.category]) dX4_perform_35 rfl rfl ?_
      refine z_iconst (v := 0) C (by decide +kernel) dX4_perform_38 ?_
      exact z_endI (hret _ _ dX4_perform_39) (by unfold cPerR; rw [if_pos (by rw [hm, cSol_n ha]; exact g_22)]) (st_k (by unfold cPerf; rw [if_pos (by rw [hm, cSol_n ha]; exact g_22), hm, tn_nI (by omega)]))
set_option maxHeartbeats 4000000 in
set_option maxRecDepth 100000 in
theorem c_X4_serveFirst_o (l : Launch) (D : DD) (n0 : Nat) (κ μ : KH) (o : Int64) (q v w : Nat) (hn : κ 108 0 = nI (q + 1)) (hq : q < 8) (hv : κ 109 0 = nI v) (hv16 : v < 16) (h0 : κ (cVk v) 0 ≠ 0) (hw : κ 110 0 = nI w) (hw160 : w < 160) (hJ : cJ κ) (ho : cOver κ (cVk v) (w / 4) = true) : HM l D n0 yX4_serveFirst cX4_serveFirst 3 (some .boolean) 2 43 [.ref (n0 + 0)] (κ, μ, o) (some (.int 1)) (up κ 0 11 (κ 0 11 + 1), μ, o) := by
  refine HM.of (by decide) (by simp [Value.category]) (by simp) (Or.inr (Or.inl ⟨_, .boolean, rfl, rfl, (by decide +kernel)⟩)) ?_
  intro pp ee ss mm aa bb me cd Q C K hret
  show ZZ pp l ee (rmk 2 43) ss mm aa bb me cd D n0 127 3 0 0 Q _ 0 [some (.ref (n0 + 0)), none, none] []
  have hfm := cFM_le κ (nC κ)
  have hn97 : nC κ < 97 := hJ.1.2
  refine z_aload_n C rfl dX4_serveFirst_0 ?_
  refine gf_X4_10 C dX4_serveFirst_1 ?_
  refine z_aload_n C rfl dX4_serveFirst_4 ?_
  refine gf_X4_34 C dX4_serveFirst_5 ?_
  refine z_iconst (v := 0) C (by decide +kernel) dX4_serveFirst_8 ?_
  refine z_callV (As := [.int 0]) (r := (some (.int (nI v)))) (σ1 := (κ, μ, o)) (st := [.ref (n0 + 1)]) (st1 := [.int (nI v), .ref (n0 + 1)]) C K ok_X4_314 (c_X1_volumeAt l D n0 κ μ o (q + 1) 0 (nI v) hn (by omega) (by omega) hv) enc_Q (by decide) rfl rfl ⟨by decide, by decide⟩ ⟨Nat.zero_le _, Nat.zero_le _⟩ (by simp [Value.category]) dX4_serveFirst_9 rfl rfl ?_
  refine z_callV (As := [.int (nI v)]) (r := (some (.ref (n0 + (cVk v))))) (σ1 := (κ, μ, o)) (st := []) (st1 := [.ref (n0 + (cVk v))]) C K ok_X4_276 (c_X2_find l D n0 κ μ o 1 v okS1 hv16 h0) (enc_S (Or.inl rfl)) (isS_lt (Or.inl rfl)) rfl rfl ⟨by decide, by decide⟩ ⟨Nat.zero_le _, Nat.zero_le _⟩ (by simp [Value.category]) dX4_serveFirst_12 rfl rfl ?_
  refine z_astore_n (ls' := [some (.ref (n0 + 0)), some (.ref (n0 + (cVk v))), none]) C (by decide) rfl dX4_serveFirst_15 ?_
  refine z_aload_n C rfl dX4_serveFirst_16 ?_
  refine gf_X4_34 C dX4_serveFirst_17 ?_
  refine z_iconst (v := 0) C (by decide +kernel) dX4_serveFirst_20 ?_
  refine z_callV (As := [.int 0]) (r := (some (.int (nI w)))) (σ1 := (κ, μ, o)) (st := []) (st1 := [.int (nI w)]) C K ok_X4_317 (c_X1_wordAt l D n0 κ μ o (q + 1) 0 (nI w) hn (by omega) (by omega) hw) enc_Q (by decide) rfl rfl ⟨by decide, by decide⟩ ⟨Nat.zero_le _, Nat.zero_le _⟩ (by simp [Value.category]) dX4_serveFirst_21 rfl rfl ?_
  refine z_istore_n (ls' := [some (.ref (n0 + 0)), some (.ref (n0 + (cVk v))), some (.int (nI w))]) C (by decide) rfl dX4_serveFirst_24 ?_
  refine z_aload_n C rfl dX4_serveFirst_25 ?_
  refine z_ifnull C dX4_serveFirst_26 ?_
  refine z_aload_n C rfl dX4_serveFirst_29 ?_
  refine z_aload_n C rfl dX4_serveFirst_30 ?_
  refine z_iload_n C rfl dX4_serveFirst_31 ?_
  refine z_iconst (v := 4) C (by decide +kernel) dX4_serveFirst_32 ?_
  refine z_idiv (v := nI (w / 4)) C (by decide +kernel) (cv_div (by omega) (by decide) (by decide)) dX4_serveFirst_33 ?_
  refine z_callV (As := [.ref (n0 + (cVk v)), .int (nI (w / 4))]) (r := (some (.int (b2i (cOver κ ((cVk v)) (w / 4)))))) (σ1 := (κ, μ, o)) (st := []) (st1 := [.int (b2i (cOver κ ((cVk v)) (w / 4)))]) C K ok_X4_137 (c_X4_isOver l D n0 κ μ o ((cVk v)) (w / 4) (isVk hv16) (by omega)) enc_0 (by decide) rfl rfl ⟨by decide, by decide⟩ ⟨Nat.zero_le _, Nat.zero_le _⟩ (by simp [Value.category]) dX4_serveFirst_34 rfl rfl ?_
  refine z_if_eq (tgt := 52) C dX4_serveFirst_37 (by decide) (fun h_37 => ?_) (fun h_37 => ?_)
  · have g_37 := cv_b0 h_37
    exact absurd g_37 (by rw [ho]; decide)
  · have g_37 := cv_b1 h_37
    refine z_aload_n C rfl dX4_serveFirst_40 ?_
    refine z_dup C rfl dX4_serveFirst_41 ?_
    refine gf_X4_94 (v := κ 0 11) C rfl dX4_serveFirst_42 ?_
    refine z_iconst (v := 1) C (by decide +kernel) dX4_serveFirst_45 ?_
    refine z_iadd (v := (κ 0 11) + 1) C rfl dX4_serveFirst_46 ?_
    refine pf_X4_94 (x := (κ 0 11) + 1) C dX4_serveFirst_47 ?_
    refine z_iconst (v := 1) C (by decide +kernel) dX4_serveFirst_50 ?_
    exact z_endI (hret _ _ dX4_serveFirst_51) rfl rfl
set_option maxHeartbeats 4000000 in
set_option maxRecDepth 100000 in
theorem c_X4_serveFirst_s (l : Launch) (D : DD) (n0 : Nat) (κ μ : KH) (o : Int64) (q v w : Nat) (hn : κ 108 0 = nI (q + 1)) (hq : q < 8) (hv : κ 109 0 = nI v) (hv16 : v < 16) (h0 : κ (cVk v) 0 ≠ 0) (hw : κ 110 0 = nI w) (hw160 : w < 160) (hJ : cJ κ) (ho : cOver κ (cVk v) (w / 4) = false) (hne : cNeed κ (cVk v) (w / 4) = true) (hf : cFM κ (nC κ) = 0) : HM l D n0 yX4_serveFirst cX4_serveFirst 3 (some .boolean) 3 64 [.ref (n0 + 0)] (κ, μ, o) (some (.int 0)) (κ, μ, o) := by
  refine HM.of (by decide) (by simp [Value.category]) (by simp) (Or.inr (Or.inl ⟨_, .boolean, rfl, rfl, (by decide +kernel)⟩)) ?_
  intro pp ee ss mm aa bb me cd Q C K hret
  show ZZ pp l ee (rmk 3 64) ss mm aa bb me cd D n0 127 3 0 0 Q _ 0 [some (.ref (n0 + 0)), none, none] []
  have hfm := cFM_le κ (nC κ)
  have hn97 : nC κ < 97 := hJ.1.2
  refine z_aload_n C rfl dX4_serveFirst_0 ?_
  refine gf_X4_10 C dX4_serveFirst_1 ?_
  refine z_aload_n C rfl dX4_serveFirst_4 ?_
  refine gf_X4_34 C dX4_serveFirst_5 ?_
  refine z_iconst (v := 0) C (by decide +kernel) dX4_serveFirst_8 ?_
  refine z_callV (As := [.int 0]) (r := (some (.int (nI v)))) (σ1 := (κ, μ, o)) (st := [.ref (n0 + 1)]) (st1 := [.int (nI v), .ref (n0 + 1)]) C K ok_X4_314 (c_X1_volumeAt l D n0 κ μ o (q + 1) 0 (nI v) hn (by omega) (by omega) hv) enc_Q (by decide) rfl rfl ⟨by decide, by decide⟩ ⟨Nat.zero_le _, Nat.zero_le _⟩ (by simp [Value.category]) dX4_serveFirst_9 rfl rfl ?_
  refine z_callV (As := [.int (nI v)]) (r := (some (.ref (n0 + (cVk v))))) (σ1 := (κ, μ, o)) (st := []) (st1 := [.ref (n0 + (cVk v))]) C K ok_X4_276 (c_X2_find l D n0 κ μ o 1 v okS1 hv16 h0) (enc_S (Or.inl rfl)) (isS_lt (Or.inl rfl)) rfl rfl ⟨by decide, by decide⟩ ⟨Nat.zero_le _, Nat.zero_le _⟩ (by simp [Value.category]) dX4_serveFirst_12 rfl rfl ?_
  refine z_astore_n (ls' := [some (.ref (n0 + 0)), some (.ref (n0 + (cVk v))), none]) C (by decide) rfl dX4_serveFirst_15 ?_
  refine z_aload_n C rfl dX4_serveFirst_16 ?_
  refine gf_X4_34 C dX4_serveFirst_17 ?_
  refine z_iconst (v := 0) C (by decide +kernel) dX4_serveFirst_20 ?_
  refine z_callV (As := [.int 0]) (r := (some (.int (nI w)))) (σ1 := (κ, μ, o)) (st := []) (st1 := [.int (nI w)]) C K ok_X4_317 (c_X1_wordAt l D n0 κ μ o (q + 1) 0 (nI w) hn (by omega) (by omega) hw) enc_Q (by decide) rfl rfl ⟨by decide, by decide⟩ ⟨Nat.zero_le _, Nat.zero_le _⟩ (by simp [Value.category]) dX4_serveFirst_21 rfl rfl ?_
  refine z_istore_n (ls' := [some (.ref (n0 + 0)), some (.ref (n0 + (cVk v))), some (.int (nI w))]) C (by decide) rfl dX4_serveFirst_24 ?_
  refine z_aload_n C rfl dX4_serveFirst_25 ?_
  refine z_ifnull C dX4_serveFirst_26 ?_
  refine z_aload_n C rfl dX4_serveFirst_29 ?_
  refine z_aload_n C rfl dX4_serveFirst_30 ?_
  refine z_iload_n C rfl dX4_serveFirst_31 ?_
  refine z_iconst (v := 4) C (by decide +kernel) dX4_serveFirst_32 ?_
  refine z_idiv (v := nI (w / 4)) C (by decide +kernel) (cv_div (by omega) (by decide) (by decide)) dX4_serveFirst_33 ?_
  refine z_callV (As := [.ref (n0 + (cVk v)), .int (nI (w / 4))]) (r := (some (.int (b2i (cOver κ ((cVk v)) (w / 4)))))) (σ1 := (κ, μ, o)) (st := []) (st1 := [.int (b2i (cOver κ ((cVk v)) (w / 4)))]) C K ok_X4_137 (c_X4_isOver l D n0 κ μ o ((cVk v)) (w / 4) (isVk hv16) (by omega)) enc_0 (by decide) rfl rfl ⟨by decide, by decide⟩ ⟨Nat.zero_le _, Nat.zero_le _⟩ (by simp [Value.category]) dX4_serveFirst_34 rfl rfl ?_
  refine z_if_eq (tgt := 52) C dX4_serveFirst_37 (by decide) (fun h_37 => ?_) (fun h_37 => ?_)
  · have g_37 := cv_b0 h_37
    refine z_aload_n C rfl dX4_serveFirst_52 ?_
    refine z_aload_n C rfl dX4_serveFirst_53 ?_
    refine z_iload_n C rfl dX4_serveFirst_54 ?_
    refine z_iconst (v := 4) C (by decide +kernel) dX4_serveFirst_55 ?_
    refine z_idiv (v := nI (w / 4)) C (by decide +kernel) (cv_div (by omega) (by decide) (by decide)) dX4_serveFirst_56 ?_
    refine z_callV (As := [.ref (n0 + (cVk v)), .int (nI (w / 4))]) (r := (some (.int (b2i (cNeed κ ((cVk v)) (w / 4)))))) (σ1 := (κ, μ, o)) (st := []) (st1 := [.int (b2i (cNeed κ ((cVk v)) (w / 4)))]) C K ok_X4_130 (c_X4_needsExtent l D n0 κ μ o ((cVk v)) (w / 4) (isVk hv16) (by omega) (hJ.2.2.2 _ (isVk hv16) _)) enc_0 (by decide) rfl rfl ⟨by decide, by decide⟩ ⟨Nat.zero_le _, Nat.zero_le _⟩ (by simp [Value.category]) dX4_serveFirst_57 rfl rfl ?_
    refine z_if_eq (tgt := 75) C dX4_serveFirst_60 (by decide) (fun h_60 => ?_) (fun h_60 => ?_)
    · have g_60 := cv_b0 h_60
      exact absurd g_60 (by rw [hne]; decide)
    · have g_60 := cv_b1 h_60
      refine z_aload_n C rfl dX4_serveFirst_63 ?_
      refine gf_X4_27 C dX4_serveFirst_64 ?_
      refine z_callV (As := []) (r := (some (.int (nI (cFM κ ((nC κ))))))) (σ1 := (κ, μ, o)) (st := []) (st1 := [.int (nI (cFM κ ((nC κ))))]) C K ok_X4_264 (c_X0_countFree l D n0 κ μ o (nC κ) hJ.1.1 (Nat.le_of_lt_succ hJ.1.2)) enc_P (by decide) rfl rfl ⟨by decide, by decide⟩ ⟨Nat.zero_le _, Nat.zero_le _⟩ (by simp [Value.category]) dX4_serveFirst_67 rfl rfl ?_
      refine z_if_ne (tgt := 75) C dX4_serveFirst_70 (by decide) (fun h_70 => ?_) (fun h_70 => ?_)
      · have g_70 := cv_ne (a := cFM κ ((nC κ))) (b := 0) h_70
        exact absurd h_70 (by rw [hf]; decide +kernel)
      · have g_70 := cv_eq (a := cFM κ ((nC κ))) (b := 0) (by omega) (by omega) h_70
        refine z_iconst (v := 0) C (by decide +kernel) dX4_serveFirst_73 ?_
        exact z_endI (hret _ _ dX4_serveFirst_74) rfl rfl
  · have g_37 := cv_b1 h_37
    exact absurd g_37 (by rw [ho]; decide)
set_option maxHeartbeats 4000000 in
set_option maxRecDepth 100000 in
theorem c_X4_serveFirst (l : Launch) (D : DD) (n0 : Nat) (κ μ : KH) (o : Int64) (q v w : Nat) (hn : κ 108 0 = nI (q + 1)) (hq : q < 8) (hv : κ 109 0 = nI v) (hv16 : v < 16) (h0 : κ (cVk v) 0 ≠ 0) (hw : κ 110 0 = nI w) (hw160 : w < 160) (hJ : cJ κ) (ho : cOver κ (cVk v) (w / 4) = false) (hf : cNeed κ (cVk v) (w / 4) = true → cFM κ (nC κ) ≠ 0) : HM l D n0 yX4_serveFirst cX4_serveFirst 3 (some .boolean) 4 92 [.ref (n0 + 0)] (κ, μ, o) (some (.int 1)) (cPerf κ (cVk v) w (κ 111 0), μ, o) := by
  refine HM.of (by decide) (by simp [Value.category]) (by simp) (Or.inr (Or.inl ⟨_, .boolean, rfl, rfl, (by decide +kernel)⟩)) ?_
  intro pp ee ss mm aa bb me cd Q C K hret
  show ZZ pp l ee (rmk 4 92) ss mm aa bb me cd D n0 127 3 0 0 Q _ 0 [some (.ref (n0 + 0)), none, none] []
  have hfm := cFM_le κ (nC κ)
  have hn97 : nC κ < 97 := hJ.1.2
  refine z_aload_n C rfl dX4_serveFirst_0 ?_
  refine gf_X4_10 C dX4_serveFirst_1 ?_
  refine z_aload_n C rfl dX4_serveFirst_4 ?_
  refine gf_X4_34 C dX4_serveFirst_5 ?_
  refine z_iconst (v := 0) C (by decide +kernel) dX4_serveFirst_8 ?_
  refine z_callV (As := [.int 0]) (r := (some (.int (nI v)))) (σ1 := (κ, μ, o)) (st := [.ref (n0 + 1)]) (st1 := [.int (nI v), .ref (n0 + 1)]) C K ok_X4_314 (c_X1_volumeAt l D n0 κ μ o (q + 1) 0 (nI v) hn (by omega) (by omega) hv) enc_Q (by decide) rfl rfl ⟨by decide, by decide⟩ ⟨Nat.zero_le _, Nat.zero_le _⟩ (by simp [Value.category]) dX4_serveFirst_9 rfl rfl ?_
  refine z_callV (As := [.int (nI v)]) (r := (some (.ref (n0 + (cVk v))))) (σ1 := (κ, μ, o)) (st := []) (st1 := [.ref (n0 + (cVk v))]) C K ok_X4_276 (c_X2_find l D n0 κ μ o 1 v okS1 hv16 h0) (enc_S (Or.inl rfl)) (isS_lt (Or.inl rfl)) rfl rfl ⟨by decide, by decide⟩ ⟨Nat.zero_le _, Nat.zero_le _⟩ (by simp [Value.category]) dX4_serveFirst_12 rfl rfl ?_
  refine z_astore_n (ls' := [some (.ref (n0 + 0)), some (.ref (n0 + (cVk v))), none]) C (by decide) rfl dX4_serveFirst_15 ?_
  refine z_aload_n C rfl dX4_serveFirst_16 ?_
  refine gf_X4_34 C dX4_serveFirst_17 ?_
  refine z_iconst (v := 0) C (by decide +kernel) dX4_serveFirst_20 ?_
  refine z_callV (As := [.int 0]) (r := (some (.int (nI w)))) (σ1 := (κ, μ, o)) (st := []) (st1 := [.int (nI w)]) C K ok_X4_317 (c_X1_wordAt l D n0 κ μ o (q + 1) 0 (nI w) hn (by omega) (by omega) hw) enc_Q (by decide) rfl rfl ⟨by decide, by decide⟩ ⟨Nat.zero_le _, Nat.zero_le _⟩ (by simp [Value.category]) dX4_serveFirst_21 rfl rfl ?_
  refine z_istore_n (ls' := [some (.ref (n0 + 0)), some (.ref (n0 + (cVk v))), some (.int (nI w))]) C (by decide) rfl dX4_serveFirst_24 ?_
  refine z_aload_n C rfl dX4_serveFirst_25 ?_
  refine z_ifnull C dX4_serveFirst_26 ?_
  refine z_aload_n C rfl dX4_serveFirst_29 ?_
  refine z_aload_n C rfl dX4_serveFirst_30 ?_
  refine z_iload_n C rfl dX4_serveFirst_31 ?_
  refine z_iconst (v := 4) C (by decide +kernel) dX4_serveFirst_32 ?_
  refine z_idiv (v := nI (w / 4)) C (by decide +kernel) (cv_div (by omega) (by decide) (by decide)) dX4_serveFirst_33 ?_
  refine z_callV (As := [.ref (n0 + (cVk v)), .int (nI (w / 4))]) (r := (some (.int (b2i (cOver κ ((cVk v)) (w / 4)))))) (σ1 := (κ, μ, o)) (st := []) (st1 := [.int (b2i (cOver κ ((cVk v)) (w / 4)))]) C K ok_X4_137 (c_X4_isOver l D n0 κ μ o ((cVk v)) (w / 4) (isVk hv16) (by omega)) enc_0 (by decide) rfl rfl ⟨by decide, by decide⟩ ⟨Nat.zero_le _, Nat.zero_le _⟩ (by simp [Value.category]) dX4_serveFirst_34 rfl rfl ?_
  refine z_if_eq (tgt := 52) C dX4_serveFirst_37 (by decide) (fun h_37 => ?_) (fun h_37 => ?_)
  · have g_37 := cv_b0 h_37
    refine z_aload_n C rfl dX4_serveFirst_52 ?_
    refine z_aload_n C rfl dX4_serveFirst_53 ?_
    refine z_iload_n C rfl dX4_serveFirst_54 ?_
    refine z_iconst (v := 4) C (by decide +kernel) dX4_serveFirst_55 ?_
    refine z_idiv (v := nI (w / 4)) C (by decide +kernel) (cv_div (by omega) (by decide) (by decide)) dX4_serveFirst_56 ?_
    refine z_callV (As := [.ref (n0 + (cVk v)), .int (nI (w / 4))]) (r := (some (.int (b2i (cNeed κ ((cVk v)) (w / 4)))))) (σ1 := (κ, μ, o)) (st := []) (st1 := [.int (b2i (cNeed κ ((cVk v)) (w / 4)))]) C K ok_X4_130 (c_X4_needsExtent l D n0 κ μ o ((cVk v)) (w / 4) (isVk hv16) (by omega) (hJ.2.2.2 _ (isVk hv16) _)) enc_0 (by decide) rfl rfl ⟨by decide, by decide⟩ ⟨Nat.zero_le _, Nat.zero_le _⟩ (by simp [Value.category]) dX4_serveFirst_57 rfl rfl ?_
    refine z_if_eq (tgt := 75) C dX4_serveFirst_60 (by decide) (fun h_60 => ?_) (fun h_60 => ?_)
    · have g_60 := cv_b0 h_60
      refine z_aload_n C rfl dX4_serveFirst_75 ?_
      refine z_aload_n C rfl dX4_serveFirst_76 ?_
      refine z_iload_n C rfl dX4_serveFirst_77 ?_
      refine z_aload_n C rfl dX4_serveFirst_78 ?_
      refine gf_X4_34 C dX4_serveFirst_79 ?_
      refine z_iconst (v := 0) C (by decide +kernel) dX4_serveFirst_82 ?_
      refine z_callV (As := [.int 0]) (r := (some (.int (κ 111 0)))) (σ1 := (κ, μ, o)) (st := [.int (nI w), .ref (n0 + (cVk v)), .ref (n0 + 0)]) (st1 := [.int (κ 111 0), .int (nI w), .ref (n0 + (cVk v)), .ref (n0 + 0)]) C K ok_X4_319 (c_X1_valueAt l D n0 κ μ o (q + 1) 0 (κ 111 0) hn (by omega) (by omega) rfl) enc_Q (by decide) rfl rfl ⟨by decide, by decide⟩ ⟨Nat.zero_le _, Nat.zero_le _⟩ (by simp [Value.category]) dX4_serveFirst_83 rfl rfl ?_
      refine z_callV (As := [.ref (n0 + (cVk v)), .int (nI w), .int (κ 111 0)]) (r := (some (.int (cPerR κ ((cVk v)) w)))) (σ1 := (cPerf κ ((cVk v)) w (κ 111 0), μ, o)) (st := []) (st1 := [.int (cPerR κ ((cVk v)) w)]) C K ok_X4_134 (c_X4_perform l D n0 κ μ o ((cVk v)) w (κ 111 0) (isVk hv16) (by omega) hJ hf) enc_0 (by decide) rfl rfl ⟨by decide, by decide⟩ ⟨Nat.zero_le _, Nat.zero_le _⟩ (by simp [Value.category]) dX4_serveFirst_86 rfl rfl ?_
      refine z_pop C rfl dX4_serveFirst_89 ?_
      refine z_iconst (v := 1) C (by decide +kernel) dX4_serveFirst_90 ?_
      exact z_endI (hret _ _ dX4_serveFirst_91) rfl rfl
    · have g_60 := cv_b1 h_60
      refine z_aload_n C rfl dX4_serveFirst_63 ?_
      refine gf_X4_27 C dX4_serveFirst_64 ?_
      refine z_callV (As := []) (r := (some (.int (nI (cFM κ ((nC κ))))))) (σ1 := (κ, μ, o)) (st := []) (st1 := [.int (nI (cFM κ ((nC κ))))]) C K ok_X4_264 (c_X0_countFree l D n0 κ μ o (nC κ) hJ.1.1 (Nat.le_of_lt_succ hJ.1.2)) enc_P (by decide) rfl rfl ⟨by decide, by decide⟩ ⟨Nat.zero_le _, Nat.zero_le _⟩ (by simp [Value.category]) dX4_serveFirst_67 rfl rfl ?_
      refine z_if_ne (tgt := 75) C dX4_serveFirst_70 (by decide) (fun h_70 => ?_) (fun h_70 => ?_)
      · have g_70 := cv_ne (a := cFM κ ((nC κ))) (b := 0) h_70
        refine z_aload_n C rfl dX4_serveFirst_75 ?_
        refine z_aload_n C rfl dX4_serveFirst_76 ?_
        refine z_iload_n C rfl dX4_serveFirst_77 ?_
        refine z_aload_n C rfl dX4_serveFirst_78 ?_
        refine gf_X4_34 C dX4_serveFirst_79 ?_
        refine z_iconst (v := 0) C (by decide +kernel) dX4_serveFirst_82 ?_
        refine z_callV (As := [.int 0]) (r := (some (.int (κ 111 0)))) (σ1 := (κ, μ, o)) (st := [.int (nI w), .ref (n0 + (cVk v)), .ref (n0 + 0)]) (st1 := [.int (κ 111 0), .int (nI w), .ref (n0 + (cVk v)), .ref (n0 + 0)]) C K ok_X4_319 (c_X1_valueAt l D n0 κ μ o (q + 1) 0 (κ 111 0) hn (by omega) (by omega) rfl) enc_Q (by decide) rfl rfl ⟨by decide, by decide⟩ ⟨Nat.zero_le _, Nat.zero_le _⟩ (by simp [Value.category]) dX4_serveFirst_83 rfl rfl ?_
        refine z_callV (As := [.ref (n0 + (cVk v)), .int (nI w), .int (κ 111 0)]) (r := (some (.int (cPerR κ ((cVk v)) w)))) (σ1 := (cPerf κ ((cVk v)) w (κ 111 0), μ, o)) (st := []) (st1 := [.int (cPerR κ ((cVk v)) w)]) C K ok_X4_134 (c_X4_perform l D n0 κ μ o ((cVk v)) w (κ 111 0) (isVk hv16) (by omega) hJ hf) enc_0 (by decide) rfl rfl ⟨by decide, by decide⟩ ⟨Nat.zero_le _, Nat.zero_le _⟩ (by simp [Value.category]) dX4_serveFirst_86 rfl rfl ?_
        refine z_pop C rfl dX4_serveFirst_89 ?_
        refine z_iconst (v := 1) C (by decide +kernel) dX4_serveFirst_90 ?_
        exact z_endI (hret _ _ dX4_serveFirst_91) rfl rfl
      · have g_70 := cv_eq (a := cFM κ ((nC κ))) (b := 0) (by omega) (by omega) h_70
        exact absurd (show cFM κ (nC κ) = 0 by omega) (hf g_60)
  · have g_37 := cv_b1 h_37
    exact absurd g_37 (by rw [ho]; decide)
set_option maxHeartbeats 4000000 in
set_option maxRecDepth 100000 in
theorem c_X4_serveQueue (l : Launch) (D : DD) (n0 : Nat) (κ μ : KH) (o : Int64) (hD : cD κ (nQc κ)) : HM l D n0 yX4_serveQueue cX4_serveQueue 2 none 5 114 [.ref (n0 + 0)] (κ, μ, o) none (cServe κ, μ, o) := by
  refine HM.of (by decide) (by simp [Value.category]) (by simp) (Or.inl ⟨rfl, rfl⟩) ?_
  intro pp ee ss mm aa bb me cd Q C K hret
  show ZZ pp l ee (rmk 5 114) ss mm aa bb me cd D n0 127 2 0 0 Q _ 0 [some (.ref (n0 + 0)), none] []
  have hD8 : nQc κ ≤ 8 := hD.2.2.1
  refine z_aload_n C rfl dX4_serveQueue_0 ?_
  refine gf_X4_119 (v := κ 0 7) C rfl dX4_serveQueue_1 ?_
  refine z_iconst (v := 1) C (by decide +kernel) dX4_serveQueue_4 ?_
  refine z_icmp_eq (tgt := 9) C dX4_serveQueue_5 (by decide) (fun h_5 => ?_) (fun h_5 => ?_)
  · skip
    refine z_iconst (v := 0) C (by decide +kernel) dX4_serveQueue_9 ?_
    refine z_istore_n (ls' := [some (.ref (n0 + 0)), some (.int 0)]) C (by decide) rfl dX4_serveQueue_10 ?_
    have hl_11 : ∀ (k : Nat) (x : KH) (i : Nat), i + k ≤ 8 → cD x k → x 0 7 = 1 → cDr k x = cServe κ → ZZ pp l ee (rmk 5 114) ss mm aa bb me cd D n0 127 2 0 0 Q (x, μ, o) 11 [some (.ref (n0 + 0)), some (.int (nI i))] [] := by
      intro k
      induction k with
      | zero =>
        intro x i hik hD hmd hX
        have hQ0 : x 108 0 = nI 0 := hD.2.1
        refine z_iload_n C rfl dX4_serveQueue_11 ?_
        refine z_bipush (v := 8) C (by decide +kernel) dX4_serveQueue_12 ?_
        refine z_icmp_ge (tgt := 47) C dX4_serveQueue_14 (by decide) (fun h_14 => ?_) (fun h_14 => ?_)
        · have g_14 := cv_le (a := 8) (b := i) (by omega) (by omega) h_14
          refine z_aload_n C rfl dX4_serveQueue_47 ?_
          refine gf_X4_34 C dX4_serveQueue_48 ?_
          refine gf_X4_267 (v := nI 0) C hQ0 dX4_serveQueue_51 ?_
          refine z_if_ne (tgt := 62) C dX4_serveQueue_54 (by decide) (fun h_54 => ?_) (fun h_54 => ?_)
          · have g_54 := cv_ne (a := 0) (b := 0) h_54
            exact absurd rfl h_54
          · have g_54 := cv_eq (a := 0) (b := 0) (by omega) (by omega) h_54
            refine z_aload_n C rfl dX4_serveQueue_57 ?_
            refine z_iconst (v := 0) C (by decide +kernel) dX4_serveQueue_58 ?_
            refine pf_X4_119 (x := 0) C dX4_serveQueue_59 ?_
            exact z_endV (hret _ _ dX4_serveQueue_62) (st_k hX)
        · have g_14 := cv_nle (a := 8) (b := i) (by omega) (by omega) h_14
          refine z_aload_n C rfl dX4_serveQueue_17 ?_
          refine gf_X4_34 C dX4_serveQueue_18 ?_
          refine gf_X4_267 (v := nI 0) C hQ0 dX4_serveQueue_21 ?_
          refine z_if_le (tgt := 47) C dX4_serveQueue_24 (by decide) (fun h_24 => ?_) (fun h_24 => ?_)
          · have g_24 := cv_le (a := 0) (b := 0) (by omega) (by omega) h_24
            refine z_aload_n C rfl dX4_serveQueue_47 ?_
            refine gf_X4_34 C dX4_serveQueue_48 ?_
            refine gf_X4_267 (v := nI 0) C hQ0 dX4_serveQueue_51 ?_
            refine z_if_ne (tgt := 62) C dX4_serveQueue_54 (by decide) (fun h_54 => ?_) (fun h_54 => ?_)
            · have g_54 := cv_ne (a := 0) (b := 0) h_54
              exact absurd rfl h_54
            · have g_54 := cv_eq (a := 0) (b := 0) (by omega) (by omega) h_54
              refine z_aload_n C rfl dX4_serveQueue_57 ?_
              refine z_iconst (v := 0) C (by decide +kernel) dX4_serveQueue_58 ?_
              refine pf_X4_119 (x := 0) C dX4_serveQueue_59 ?_
              exact z_endV (hret _ _ dX4_serveQueue_62) (st_k hX)
          · have g_24 := cv_nle (a := 0) (b := 0) (by omega) (by omega) h_24
            exact absurd h_24 (by decide +kernel)
      | succ k ih =>
        intro x i hik hD hmd hX
        have hQ1 : x 108 0 = nI (k + 1) := hD.2.1
        obtain ⟨⟨hv1, hv2⟩, ⟨hw1, hw2⟩, hth⟩ := hD.2.2.2 0 (by omega)
        refine z_iload_n C rfl dX4_serveQueue_11 ?_
        refine z_bipush (v := 8) C (by decide +kernel) dX4_serveQueue_12 ?_
        refine z_icmp_ge (tgt := 47) C dX4_serveQueue_14 (by decide) (fun h_14 => ?_) (fun h_14 => ?_)
        · have g_14 := cv_le (a := 8) (b := i) (by omega) (by omega) h_14
          exact absurd g_14 (by omega)
        · have g_14 := cv_nle (a := 8) (b := i) (by omega) (by omega) h_14
          refine z_aload_n C rfl dX4_serveQueue_17 ?_
          refine gf_X4_34 C dX4_serveQueue_18 ?_
          refine gf_X4_267 (v := nI (k + 1)) C hQ1 dX4_serveQueue_21 ?_
          refine z_if_le (tgt := 47) C dX4_serveQueue_24 (by decide) (fun h_24 => ?_) (fun h_24 => ?_)
          · have g_24 := cv_le (a := k + 1) (b := 0) (by omega) (by omega) h_24
            exact absurd h_24 (Int32.not_le.mpr (nI_lt (a := 0) (b := k + 1) (by omega) (by omega)))
          · have g_24 := cv_nle (a := k + 1) (b := 0) (by omega) (by omega) h_24
            by_cases ho : cOver x (cVk (tn (x 109 0))) (tn (x 110 0) / 4) = true
            · skip
              refine z_aload_n C rfl dX4_serveQueue_27 ?_
              refine z_callV (As := []) (r := (some (.int 1))) (σ1 := (up x 0 11 (x 0 11 + 1), μ, o)) (st := []) (st1 := [.int 1]) C K ok_X4_308 (c_X4_serveFirst_o l D n0 x μ o k (tn (x 109 0)) (tn (x 110 0)) (hD.2.1) (by omega) hv1 hv2 hth hw1 hw2 hD.1 ho) enc_0 (by decide) rfl rfl ⟨by decide, by decide⟩ ⟨Nat.zero_le _, Nat.zero_le _⟩ (by simp [Value.category]) dX4_serveQueue_28 rfl rfl ?_
              refine z_if_eq (tgt := 47) C dX4_serveQueue_31 (by decide) (fun h_31 => ?_) (fun h_31 => ?_)
              · exact absurd h_31 (by decide +kernel)
              · skip
                refine z_aload_n C rfl dX4_serveQueue_34 ?_
                refine gf_X4_34 C dX4_serveQueue_35 ?_
                refine z_callV (As := []) (r := none) (σ1 := (cUq (up x 0 11 (x 0 11 + 1)) k, μ, o)) (st := []) (st1 := []) C K ok_X4_311 (c_X1_removeFirst l D n0 (up x 0 11 (x 0 11 + 1)) μ o k ((cD_up0 hD).2.1) (by omega)) enc_Q (by decide) rfl rfl ⟨by decide, by decide⟩ ⟨Nat.zero_le _, Nat.zero_le _⟩ (by simp [Value.category]) dX4_serveQueue_38 rfl rfl ?_
                refine z_iinc (v := nI (i + 1)) (ls' := [some (.ref (n0 + 0)), some (.int (nI (i + 1)))]) C rfl (cv_inc i 1) (by decide) rfl dX4_serveQueue_41 ?_
                refine z_goto (tgt := 11) C dX4_serveQueue_44 (by decide) ?_
                exact z_cast (ih _ (i + 1) (by omega) (cD_uq (cD_up0 hD)) (by rw [cUq_o (by decide) (by decide) (by decide) (by decide), up_ix (by decide)]; exact hmd) (by rw [← hX, cDr, if_pos ho])) rfl ⟨rfl, rfl, trivial⟩ rfl
            · skip
              refine z_aload_n C rfl dX4_serveQueue_27 ?_
              by_cases hs : cNeed x (cVk (tn (x 109 0))) (tn (x 110 0) / 4) = true ∧ cFM x (nC x) = 0
              · skip
                refine z_callV (As := []) (r := (some (.int 0))) (σ1 := (x, μ, o)) (st := []) (st1 := [.int 0]) C K ok_X4_308 (c_X4_serveFirst_s l D n0 x μ o k (tn (x 109 0)) (tn (x 110 0)) (hD.2.1) (by omega) hv1 hv2 hth hw1 hw2 hD.1 (by simpa using ho) hs.1 hs.2) enc_0 (by decide) rfl rfl ⟨by decide, by decide⟩ ⟨Nat.zero_le _, Nat.zero_le _⟩ (by simp [Value.category]) dX4_serveQueue_28 rfl rfl ?_
                refine z_if_eq (tgt := 47) C dX4_serveQueue_31 (by decide) (fun h_31 => ?_) (fun h_31 => ?_)
                · skip
                  refine z_aload_n C rfl dX4_serveQueue_47 ?_
                  refine gf_X4_34 C dX4_serveQueue_48 ?_
                  refine gf_X4_267 (v := nI (k + 1)) C hQ1 dX4_serveQueue_51 ?_
                  refine z_if_ne (tgt := 62) C dX4_serveQueue_54 (by decide) (fun h_54 => ?_) (fun h_54 => ?_)
                  · have g_54 := cv_ne (a := k + 1) (b := 0) h_54
                    exact z_endV (hret _ _ dX4_serveQueue_62) (st_k (by rw [← hX, cDr, if_neg ho, if_pos hs]))
                  · have g_54 := cv_eq (a := k + 1) (b := 0) (by omega) (by omega) h_54
                    exact absurd h_54 (cv_ne0 (by omega) (by omega))
                · exact absurd h_31 (by decide +kernel)
              · have hf : cNeed x (cVk (tn (x 109 0))) (tn (x 110 0) / 4) = true → cFM x (nC x) ≠ 0 := fun a b => hs ⟨a, b⟩
                refine z_callV (As := []) (r := (some (.int 1))) (σ1 := (cPerf x (cVk (tn (x 109 0))) (tn (x 110 0)) (x 111 0), μ, o)) (st := []) (st1 := [.int 1]) C K ok_X4_308 (c_X4_serveFirst l D n0 x μ o k (tn (x 109 0)) (tn (x 110 0)) (hD.2.1) (by omega) hv1 hv2 hth hw1 hw2 hD.1 (by simpa using ho) hf) enc_0 (by decide) rfl rfl ⟨by decide, by decide⟩ ⟨Nat.zero_le _, Nat.zero_le _⟩ (by simp [Value.category]) dX4_serveQueue_28 rfl rfl ?_
                refine z_if_eq (tgt := 47) C dX4_serveQueue_31 (by decide) (fun h_31 => ?_) (fun h_31 => ?_)
                · exact absurd h_31 (by decide +kernel)
                · skip
                  refine z_aload_n C rfl dX4_serveQueue_34 ?_
                  refine gf_X4_34 C dX4_serveQueue_35 ?_
                  refine z_callV (As := []) (r := none) (σ1 := (cUq (cPerf x (cVk (tn (x 109 0))) (tn (x 110 0)) (x 111 0)) k, μ, o)) (st := []) (st1 := []) C K ok_X4_311 (c_X1_removeFirst l D n0 (cPerf x (cVk (tn (x 109 0))) (tn (x 110 0)) (x 111 0)) μ o k ((cD_perf (isVk hv2) hf hD).2.1) (by omega)) enc_Q (by decide) rfl rfl ⟨by decide, by decide⟩ ⟨Nat.zero_le _, Nat.zero_le _⟩ (by simp [Value.category]) dX4_serveQueue_38 rfl rfl ?_
                  refine z_iinc (v := nI (i + 1)) (ls' := [some (.ref (n0 + 0)), some (.int (nI (i + 1)))]) C rfl (cv_inc i 1) (by decide) rfl dX4_serveQueue_41 ?_
                  refine z_goto (tgt := 11) C dX4_serveQueue_44 (by decide) ?_
                  exact z_cast (ih _ (i + 1) (by omega) (cD_uq (cD_perf (isVk hv2) hf hD)) (by rw [cUq_o (by decide) (by decide) (by decide) (by decide), cPerf_o (by decide) (by have := cVk_lt hv2; omega) (by omega) (by decide) (by decide)]; exact hmd) (by rw [← hX, cDr, if_neg ho, if_neg hs])) rfl ⟨rfl, rfl, trivial⟩ rfl
    exact z_cast (hl_11 (nQc κ) κ 0 (by omega) hD h_5 (by unfold cServe; rw [if_pos h_5])) rfl ⟨rfl, rfl, trivial⟩ rfl
  · skip
    exact z_endV (hret _ _ dX4_serveQueue_8) (st_k (by unfold cServe; rw [if_neg h_5]))
set_option maxHeartbeats 4000000 in
set_option maxRecDepth 100000 in
theorem c_X4_writeHead (l : Launch) (D : DD) (n0 : Nat) (κ μ : KH) (o : Int64) (h01 : ∀ v, v < 16 → is01 (κ (1 + 2 + 2 * v) 0) ∧ is01 (κ (1 + 2 + 2 * v) 1)) : HM l D n0 yX4_writeHead cX4_writeHead 1 none 3 83 [.ref (n0 + 0)] (κ, μ, o) none (cHd κ, μ, o) := by
  refine HM.of (by decide) (by simp [Value.category]) (by simp) (Or.inl ⟨rfl, rfl⟩) ?_
  intro pp ee ss mm aa bb me cd Q C K hret
  show ZZ pp l ee (rmk 3 83) ss mm aa bb me cd D n0 127 1 0 0 Q _ 0 [some (.ref (n0 + 0))] []
  refine z_aload_n C rfl dX4_writeHead_0 ?_
  refine gf_X4_16 C dX4_writeHead_1 ?_
  refine z_aload_n C rfl dX4_writeHead_4 ?_
  refine gf_X4_10 C dX4_writeHead_5 ?_
  refine z_callV (As := [.ref (n0 + 1)]) (r := none) (σ1 := (cScp κ 36 1, μ, o)) (st := []) (st1 := []) C K ok_X4_192 (c_X2_copy l D n0 κ μ o 36 1 (Or.inr (Or.inl rfl)) okS1 (by decide) h01) (enc_S (Or.inr (Or.inl rfl))) (isS_lt (Or.inr (Or.inl rfl))) rfl rfl ⟨by decide, by decide⟩ ⟨Nat.zero_le _, Nat.zero_le _⟩ (by simp [Value.category]) dX4_writeHead_8 rfl rfl ?_
  refine z_aload_n C rfl dX4_writeHead_11 ?_
  refine z_dup C rfl dX4_writeHead_12 ?_
  refine gf_X4_187 (v := cScp κ 36 1 0 12) C rfl dX4_writeHead_13 ?_
  refine z_iconst (v := 1) C (by decide +kernel) dX4_writeHead_16 ?_
  refine z_iadd (v := (cScp κ 36 1 0 12) + 1) C rfl dX4_writeHead_17 ?_
  refine pf_X4_187 (x := (cScp κ 36 1 0 12) + 1) C dX4_writeHead_18 ?_
  exact z_endV (hret _ _ dX4_writeHead_21) rfl
set_option maxHeartbeats 4000000 in
set_option maxRecDepth 100000 in
theorem c_X4_countShared (l : Launch) (D : DD) (n0 : Nat) (κ μ : KH) (o : Int64) (k : Nat) (hk : isV k) (hX : ∀ q, isX (κ (k + 1) q)) : HM l D n0 yX4_countShared cX4_countShared 5 (some .int) 2 42 [.ref (n0 + 0), .ref (n0 + k)] (κ, μ, o) (some (.int (nI (sumTo (cNs1 κ k) 40)))) (κ, μ, o) := by
  refine HM.of (by decide) (by simp [Value.category]) (by simp) (Or.inr (Or.inl ⟨_, .int, rfl, rfl, rfl⟩)) ?_
  intro pp ee ss mm aa bb me cd Q C K hret
  show ZZ pp l ee (rmk 2 42) ss mm aa bb me cd D n0 127 5 0 0 Q _ 0 [some (.ref (n0 + 0)), some (.ref (n0 + k)), none, none, none] []
  refine z_iconst (v := 0) C (by decide +kernel) dX4_countShared_0 ?_
  refine z_istore_n (ls' := [some (.ref (n0 + 0)), some (.ref (n0 + k)), some (.int 0), none, none]) C (by decide) rfl dX4_countShared_1 ?_
  refine z_iconst (v := 0) C (by decide +kernel) dX4_countShared_2 ?_
  refine z_istore_n (ls' := [some (.ref (n0 + 0)), some (.ref (n0 + k)), some (.int 0), some (.int 0), none]) C (by decide) rfl dX4_countShared_3 ?_
  refine z_cast (σ1 := (κ, μ, o)) (ls' := [some (.ref (n0 + 0)), some (.ref (n0 + k)), some (.int (nI (sumTo (cNs1 κ k) 0))), some (.int (nI 0)), none]) (st' := []) (z_for (P := fun i => ZZ pp l ee (rmk 2 42) ss mm aa bb me cd D n0 127 5 0 0 Q (κ, μ, o) 4 [some (.ref (n0 + 0)), some (.ref (n0 + k)), some (.int (nI (sumTo (cNs1 κ k) i))), some (.int (nI i)), none] []) (40) ?_ ?_ 0 (Nat.zero_le _)) rfl ⟨rfl, rfl, (so_int rfl), rfl, trivial⟩ rfl
  · skip
    refine z_iload_n C rfl dX4_countShared_4 ?_
    refine z_bipush (v := 40) C (by decide +kernel) dX4_countShared_5 ?_
    refine z_icmp_ge (tgt := 44) C dX4_countShared_7 (by decide) (fun h_7 => ?_) (fun h_7 => ?_)
    · have g_7 := cv_le (a := 40) (b := 40) (by omega) (by omega) h_7
      refine z_iload_n C rfl dX4_countShared_44 ?_
      exact z_endI (hret _ _ dX4_countShared_45) rfl rfl
    · have g_7 := cv_nle (a := 40) (b := 40) (by omega) (by omega) h_7
      exact absurd g_7 (by omega)
  · intro i hi_4 ih_4
    refine z_iload_n C rfl dX4_countShared_4 ?_
    refine z_bipush (v := 40) C (by decide +kernel) dX4_countShared_5 ?_
    refine z_icmp_ge (tgt := 44) C dX4_countShared_7 (by decide) (fun h_7 => ?_) (fun h_7 => ?_)
    · have g_7 := cv_le (a := 40) (b := i) (by omega) (by omega) h_7
      exact absurd hi_4 (by omega)
    · have g_7 := cv_nle (a := 40) (b := i) (by omega) (by omega) h_7
      refine z_aload_n C rfl dX4_countShared_10 ?_
      refine z_iload_n C rfl dX4_countShared_11 ?_
      rcases hX i with hm | ⟨a, ha, hm⟩
      · skip
        refine z_callV (As := [.int (nI i)]) (r := (some (.int ((-1))))) (σ1 := (κ, μ, o)) (st := []) (st1 := [.int ((-1))]) C K ok_X4_83 (c_X3_extentOf l D n0 κ μ o k i ((-1)) hk (by omega) hm) (enc_V hk) (isV_lt hk) rfl rfl ⟨by decide, by decide⟩ ⟨Nat.zero_le _, Nat.zero_le _⟩ (by simp [Value.category]) dX4_countShared_12 rfl rfl ?_
        refine z_istore (ls' := [some (.ref (n0 + 0)), some (.ref (n0 + k)), some (.int (nI (sumTo (cNs1 κ k) i))), some (.int (nI i)), some (.int ((-1)))]) C (by decide) rfl dX4_countShared_15 ?_
        refine z_iload C rfl dX4_countShared_17 ?_
        refine z_iconst (v := (-1)) C (by decide +kernel) dX4_countShared_19 ?_
        refine z_icmp_eq (tgt := 38) C dX4_countShared_20 (by decide) (fun h_20 => ?_) (fun h_20 => ?_)
        · skip
          refine z_iinc (v := nI (i + 1)) (ls' := [some (.ref (n0 + 0)), some (.ref (n0 + k)), some (.int (nI (sumTo (cNs1 κ k) i))), some (.int (nI (i + 1))), some (.int ((-1)))]) C rfl (cv_inc i 1) (by decide) rfl dX4_countShared_38 ?_
          refine z_goto (tgt := 4) C dX4_countShared_41 (by decide) ?_
          exact z_cast (σ1 := (κ, μ, o)) (ls' := [some (.ref (n0 + 0)), some (.ref (n0 + k)), some (.int (nI (sumTo (cNs1 κ k) (i + 1)))), some (.int (nI (i + 1))), none]) (st' := []) (ih_4) rfl ⟨rfl, rfl, (so_int (by rw [sumTo, cNs1, hm, if_pos rfl]; rfl)), rfl, trivial⟩ rfl
        · exact absurd h_20 (by decide +kernel)
      · skip
        refine z_callV (As := [.int (nI i)]) (r := (some (.int (nI a)))) (σ1 := (κ, μ, o)) (st := []) (st1 := [.int (nI a)]) C K ok_X4_83 (c_X3_extentOf l D n0 κ μ o k i (nI a) hk (by omega) hm) (enc_V hk) (isV_lt hk) rfl rfl ⟨by decide, by decide⟩ ⟨Nat.zero_le _, Nat.zero_le _⟩ (by simp [Value.category]) dX4_countShared_12 rfl rfl ?_
        refine z_istore (ls' := [some (.ref (n0 + 0)), some (.ref (n0 + k)), some (.int (nI (sumTo (cNs1 κ k) i))), some (.int (nI i)), some (.int (nI a))]) C (by decide) rfl dX4_countShared_15 ?_
        refine z_iload C rfl dX4_countShared_17 ?_
        refine z_iconst (v := (-1)) C (by decide +kernel) dX4_countShared_19 ?_
        refine z_icmp_eq (tgt := 38) C dX4_countShared_20 (by decide) (fun h_20 => ?_) (fun h_20 => ?_)
        · exact absurd h_20 (nI_m1 (by omega))
        · skip
          refine z_aload_n C rfl dX4_countShared_23 ?_
          refine gf_X4_27 C dX4_countShared_24 ?_
          refine z_iload C rfl dX4_countShared_27 ?_
          refine z_callV (As := [.int (nI a)]) (r := (some (.int (b2i (cSole κ a))))) (σ1 := (κ, μ, o)) (st := []) (st1 := [.int (b2i (cSole κ a))]) C K ok_X4_293 (c_X0_isSole l D n0 κ μ o a (by omega)) enc_P (by decide) rfl rfl ⟨by decide, by decide⟩ ⟨Nat.zero_le _, Nat.zero_le _⟩ (by simp [Value.category]) dX4_countShared_29 rfl rfl ?_
          refine z_if_ne (tgt := 38) C dX4_countShared_32 (by decide) (fun h_32 => ?_) (fun h_32 => ?_)
          · have g_32 := cv_b1 h_32
            refine z_iinc (v := nI (i + 1)) (ls' := [some (.ref (n0 + 0)), some (.ref (n0 + k)), some (.int (nI (sumTo (cNs1 κ k) i))), some (.int (nI (i + 1))), some (.int (nI a))]) C rfl (cv_inc i 1) (by decide) rfl dX4_countShared_38 ?_
            refine z_goto (tgt := 4) C dX4_countShared_41 (by decide) ?_
            exact z_cast (σ1 := (κ, μ, o)) (ls' := [some (.ref (n0 + 0)), some (.ref (n0 + k)), some (.int (nI (sumTo (cNs1 κ k) (i + 1)))), some (.int (nI (i + 1))), none]) (st' := []) (ih_4) rfl ⟨rfl, rfl, (so_int (by rw [sumTo, cNs1, hm, if_neg (nI_m1 (by omega)), tn_nI (by omega), if_pos g_32]; rfl)), rfl, trivial⟩ rfl
          · have g_32 := cv_b0 h_32
            refine z_iinc (v := nI (sumTo (cNs1 κ k) i + 1)) (ls' := [some (.ref (n0 + 0)), some (.ref (n0 + k)), some (.int (nI (sumTo (cNs1 κ k) i + 1))), some (.int (nI i)), some (.int (nI a))]) C rfl (cv_inc (sumTo (cNs1 κ k) i) 1) (by decide) rfl dX4_countShared_35 ?_
            refine z_iinc (v := nI (i + 1)) (ls' := [some (.ref (n0 + 0)), some (.ref (n0 + k)), some (.int (nI (sumTo (cNs1 κ k) i + 1))), some (.int (nI (i + 1))), some (.int (nI a))]) C rfl (cv_inc i 1) (by decide) rfl dX4_countShared_38 ?_
            refine z_goto (tgt := 4) C dX4_countShared_41 (by decide) ?_
            exact z_cast (σ1 := (κ, μ, o)) (ls' := [some (.ref (n0 + 0)), some (.ref (n0 + k)), some (.int (nI (sumTo (cNs1 κ k) (i + 1)))), some (.int (nI (i + 1))), none]) (st' := []) (ih_4) rfl ⟨rfl, rfl, (so_int (by rw [sumTo, cNs1, hm, if_neg (nI_m1 (by omega)), tn_nI (by omega), if_neg (by rw [g_32]; decide)])), rfl, trivial⟩ rfl
set_option maxHeartbeats 4000000 in
set_option maxRecDepth 100000 in
theorem c_X4_sortOf (l : Launch) (D : DD) (n0 : Nat) (κ μ : KH) (o : Int64) (a b : Nat) (ha : isV a) (hb : isV b) (q : Nat) (hq : q < 40) : HM l D n0 yX4_sortOf cX4_sortOf 6 (some .int) 1 21 [.ref (n0 + 0), .ref (n0 + a), .ref (n0 + b), .int (nI q)] (κ, μ, o) (some (.int (cSort κ a b q))) (κ, μ, o) := by
  refine HM.of (by decide) (by simp [Value.category]) (by simp) (Or.inr (Or.inl ⟨_, .int, rfl, rfl, rfl⟩)) ?_
  intro pp ee ss mm aa bb me cd Q C K hret
  show ZZ pp l ee (rmk 1 21) ss mm aa bb me cd D n0 127 6 0 0 Q _ 0 [some (.ref (n0 + 0)), some (.ref (n0 + a)), some (.ref (n0 + b)), some (.int (nI q)), none, none] []
  refine z_aload_n C rfl dX4_sortOf_0 ?_
  refine z_iload_n C rfl dX4_sortOf_1 ?_
  refine z_callV (As := [.int (nI q)]) (r := (some (.int (κ (a + 1) q)))) (σ1 := (κ, μ, o)) (st := []) (st1 := [.int (κ (a + 1) q)]) C K ok_X4_83 (c_X3_extentOf l D n0 κ μ o a q (κ (a + 1) q) ha (by omega) rfl) (enc_V ha) (isV_lt ha) rfl rfl ⟨by decide, by decide⟩ ⟨Nat.zero_le _, Nat.zero_le _⟩ (by simp [Value.category]) dX4_sortOf_2 rfl rfl ?_
  refine z_istore (ls' := [some (.ref (n0 + 0)), some (.ref (n0 + a)), some (.ref (n0 + b)), some (.int (nI q)), some (.int (κ (a + 1) q)), none]) C (by decide) rfl dX4_sortOf_5 ?_
  refine z_aload_n C rfl dX4_sortOf_7 ?_
  refine z_iload_n C rfl dX4_sortOf_8 ?_
  refine z_callV (As := [.int (nI q)]) (r := (some (.int (κ (b + 1) q)))) (σ1 := (κ, μ, o)) (st := []) (st1 := [.int (κ (b + 1) q)]) C K ok_X4_83 (c_X3_extentOf l D n0 κ μ o b q (κ (b + 1) q) hb (by omega) rfl) (enc_V hb) (isV_lt hb) rfl rfl ⟨by decide, by decide⟩ ⟨Nat.zero_le _, Nat.zero_le _⟩ (by simp [Value.category]) dX4_sortOf_9 rfl rfl ?_
  refine z_istore (ls' := [some (.ref (n0 + 0)), some (.ref (n0 + a)), some (.ref (n0 + b)), some (.int (nI q)), some (.int (κ (a + 1) q)), some (.int (κ (b + 1) q))]) C (by decide) rfl dX4_sortOf_12 ?_
  refine z_iload C rfl dX4_sortOf_14 ?_
  refine z_iconst (v := (-1)) C (by decide +kernel) dX4_sortOf_16 ?_
  refine z_icmp_ne (tgt := 32) C dX4_sortOf_17 (by decide) (fun h_17 => ?_) (fun h_17 => ?_)
  · skip
    refine z_iload C rfl dX4_sortOf_32 ?_
    refine z_iconst (v := (-1)) C (by decide +kernel) dX4_sortOf_34 ?_
    refine z_icmp_ne (tgt := 40) C dX4_sortOf_35 (by decide) (fun h_35 => ?_) (fun h_35 => ?_)
    · skip
      refine z_iload C rfl dX4_sortOf_40 ?_
      refine z_iload C rfl dX4_sortOf_42 ?_
      refine z_icmp_ne (tgt := 51) C dX4_sortOf_44 (by decide) (fun h_44 => ?_) (fun h_44 => ?_)
      · skip
        refine z_iconst (v := 1) C (by decide +kernel) dX4_sortOf_51 ?_
        exact z_endI (hret _ _ dX4_sortOf_52) (by unfold cSort; simp [h_17, h_35, h_44]) rfl
      · skip
        refine z_iconst (v := 0) C (by decide +kernel) dX4_sortOf_47 ?_
        refine z_goto (tgt := 52) C dX4_sortOf_48 (by decide) ?_
        exact z_endI (hret _ _ dX4_sortOf_52) (by unfold cSort; simp [h_17, h_35, h_44]) rfl
    · skip
      refine z_iconst (v := 2) C (by decide +kernel) dX4_sortOf_38 ?_
      exact z_endI (hret _ _ dX4_sortOf_39) (by unfold cSort; simp [h_17, h_35]) rfl
  · skip
    refine z_iload C rfl dX4_sortOf_20 ?_
    refine z_iconst (v := (-1)) C (by decide +kernel) dX4_sortOf_22 ?_
    refine z_icmp_ne (tgt := 30) C dX4_sortOf_23 (by decide) (fun h_23 => ?_) (fun h_23 => ?_)
    · skip
      refine z_iconst (v := 3) C (by decide +kernel) dX4_sortOf_30 ?_
      exact z_endI (hret _ _ dX4_sortOf_31) (by unfold cSort; simp [h_17, h_23]) rfl
    · skip
      refine z_iconst (v := (-1)) C (by decide +kernel) dX4_sortOf_26 ?_
      refine z_goto (tgt := 31) C dX4_sortOf_27 (by decide) ?_
      exact z_endI (hret _ _ dX4_sortOf_31) (by unfold cSort; simp [h_17, h_23]) rfl
set_option maxHeartbeats 4000000 in
set_option maxRecDepth 100000 in
theorem c_X4_countSort (l : Launch) (D : DD) (n0 : Nat) (κ μ : KH) (o : Int64) (a b : Nat) (ha : isV a) (hb : isV b) (t : Int32) : HM l D n0 yX4_countSort cX4_countSort 6 (some .int) 2 46 [.ref (n0 + 0), .ref (n0 + a), .ref (n0 + b), .int t] (κ, μ, o) (some (.int (nI (sumTo (cDf1 κ a b t) 40)))) (κ, μ, o) := by
  refine HM.of (by decide) (by simp [Value.category]) (by simp) (Or.inr (Or.inl ⟨_, .int, rfl, rfl, rfl⟩)) ?_
  intro pp ee ss mm aa bb me cd Q C K hret
  show ZZ pp l ee (rmk 2 46) ss mm aa bb me cd D n0 127 6 0 0 Q _ 0 [some (.ref (n0 + 0)), some (.ref (n0 + a)), some (.ref (n0 + b)), some (.int t), none, none] []
  refine z_iconst (v := 0) C (by decide +kernel) dX4_countSort_0 ?_
  refine z_istore (ls' := [some (.ref (n0 + 0)), some (.ref (n0 + a)), some (.ref (n0 + b)), some (.int t), some (.int 0), none]) C (by decide) rfl dX4_countSort_1 ?_
  refine z_iconst (v := 0) C (by decide +kernel) dX4_countSort_3 ?_
  refine z_istore (ls' := [some (.ref (n0 + 0)), some (.ref (n0 + a)), some (.ref (n0 + b)), some (.int t), some (.int 0), some (.int 0)]) C (by decide) rfl dX4_countSort_4 ?_
  refine z_cast (σ1 := (κ, μ, o)) (ls' := [some (.ref (n0 + 0)), some (.ref (n0 + a)), some (.ref (n0 + b)), some (.int t), some (.int (nI (sumTo (cDf1 κ a b t) 0))), some (.int (nI 0))]) (st' := []) (z_for (P := fun i => ZZ pp l ee (rmk 2 46) ss mm aa bb me cd D n0 127 6 0 0 Q (κ, μ, o) 6 [some (.ref (n0 + 0)), some (.ref (n0 + a)), some (.ref (n0 + b)), some (.int t), some (.int (nI (sumTo (cDf1 κ a b t) i))), some (.int (nI i))] []) (40) ?_ ?_ 0 (Nat.zero_le _)) rfl ⟨rfl, rfl, rfl, rfl, (so_int rfl), rfl, trivial⟩ rfl
  · skip
    refine z_iload C rfl dX4_countSort_6 ?_
    refine z_bipush (v := 40) C (by decide +kernel) dX4_countSort_8 ?_
    refine z_icmp_ge (tgt := 34) C dX4_countSort_10 (by decide) (fun h_10 => ?_) (fun h_10 => ?_)
    · have g_10 := cv_le (a := 40) (b := 40) (by omega) (by omega) h_10
      refine z_iload C rfl dX4_countSort_34 ?_
      exact z_endI (hret _ _ dX4_countSort_36) rfl rfl
    · have g_10 := cv_nle (a := 40) (b := 40) (by omega) (by omega) h_10
      exact absurd g_10 (by omega)
  · intro i hi_6 ih_6
    refine z_iload C rfl dX4_countSort_6 ?_
    refine z_bipush (v := 40) C (by decide +kernel) dX4_countSort_8 ?_
    refine z_icmp_ge (tgt := 34) C dX4_countSort_10 (by decide) (fun h_10 => ?_) (fun h_10 => ?_)
    · have g_10 := cv_le (a := 40) (b := i) (by omega) (by omega) h_10
      exact absurd hi_6 (by omega)
    · have g_10 := cv_nle (a := 40) (b := i) (by omega) (by omega) h_10
      refine z_aload_n C rfl dX4_countSort_13 ?_
      refine z_aload_n C rfl dX4_countSort_14 ?_
      refine z_aload_n C rfl dX4_countSort_15 ?_
      refine z_iload C rfl dX4_countSort_16 ?_
      refine z_callV (As := [.ref (n0 + a), .ref (n0 + b), .int (nI i)]) (r := (some (.int (cSort κ a b i)))) (σ1 := (κ, μ, o)) (st := []) (st1 := [.int (cSort κ a b i)]) C K ok_X4_322 (c_X4_sortOf l D n0 κ μ o a b ha hb i (by omega)) enc_0 (by decide) rfl rfl ⟨by decide, by decide⟩ ⟨Nat.zero_le _, Nat.zero_le _⟩ (by simp [Value.category]) dX4_countSort_18 rfl rfl ?_
      refine z_iload_n C rfl dX4_countSort_21 ?_
      refine z_icmp_ne (tgt := 28) C dX4_countSort_22 (by decide) (fun h_22 => ?_) (fun h_22 => ?_)
      · skip
        refine z_iinc (v := nI (i + 1)) (ls' := [some (.ref (n0 + 0)), some (.ref (n0 + a)), some (.ref (n0 + b)), some (.int t), some (.int (nI (sumTo (cDf1 κ a b t) i))), some (.int (nI (i + 1)))]) C rfl (cv_inc i 1) (by decide) rfl dX4_countSort_28 ?_
        refine z_goto (tgt := 6) C dX4_countSort_31 (by decide) ?_
        exact z_cast (σ1 := (κ, μ, o)) (ls' := [some (.ref (n0 + 0)), some (.ref (n0 + a)), some (.ref (n0 + b)), some (.int t), some (.int (nI (sumTo (cDf1 κ a b t) (i + 1)))), some (.int (nI (i + 1)))]) (st' := []) (ih_6) rfl ⟨rfl, rfl, rfl, rfl, (so_int (by rw [sumTo, cDf1, if_neg h_22]; rfl)), rfl, trivial⟩ rfl
      · skip
        refine z_iinc (v := nI (sumTo (cDf1 κ a b t) i + 1)) (ls' := [some (.ref (n0 + 0)), some (.ref (n0 + a)), some (.ref (n0 + b)), some (.int t), some (.int (nI (sumTo (cDf1 κ a b t) i + 1))), some (.int (nI i))]) C rfl (cv_inc (sumTo (cDf1 κ a b t) i) 1) (by decide) rfl dX4_countSort_25 ?_
        refine z_iinc (v := nI (i + 1)) (ls' := [some (.ref (n0 + 0)), some (.ref (n0 + a)), some (.ref (n0 + b)), some (.int t), some (.int (nI (sumTo (cDf1 κ a b t) i + 1))), some (.int (nI (i + 1)))]) C rfl (cv_inc i 1) (by decide) rfl dX4_countSort_28 ?_
        refine z_goto (tgt := 6) C dX4_countSort_31 (by decide) ?_
        exact z_cast (σ1 := (κ, μ, o)) (ls' := [some (.ref (n0 + 0)), some (.ref (n0 + a)), some (.ref (n0 + b)), some (.int t), some (.int (nI (sumTo (cDf1 κ a b t) (i + 1)))), some (.int (nI (i + 1)))]) (st' := []) (ih_6) rfl ⟨rfl, rfl, rfl, rfl, (so_int (by rw [sumTo, cDf1, if_pos h_22])), rfl, trivial⟩ rfl
set_option maxHeartbeats 4000000 in
set_option maxRecDepth 100000 in
theorem c_X4_countRuns (l : Launch) (D : DD) (n0 : Nat) (κ μ : KH) (o : Int64) (a b : Nat) (ha : isV a) (hb : isV b) : HM l D n0 yX4_countRuns cX4_countRuns 7 (some .int) 2 46 [.ref (n0 + 0), .ref (n0 + a), .ref (n0 + b)] (κ, μ, o) (some (.int (nI (sumTo (cRn1 κ a b) 40)))) (κ, μ, o) := by
  refine HM.of (by decide) (by simp [Value.category]) (by simp) (Or.inr (Or.inl ⟨_, .int, rfl, rfl, rfl⟩)) ?_
  intro pp ee ss mm aa bb me cd Q C K hret
  show ZZ pp l ee (rmk 2 46) ss mm aa bb me cd D n0 127 7 0 0 Q _ 0 [some (.ref (n0 + 0)), some (.ref (n0 + a)), some (.ref (n0 + b)), none, none, none, none] []
  refine z_iconst (v := 0) C (by decide +kernel) dX4_countRuns_0 ?_
  refine z_istore_n (ls' := [some (.ref (n0 + 0)), some (.ref (n0 + a)), some (.ref (n0 + b)), some (.int 0), none, none, none]) C (by decide) rfl dX4_countRuns_1 ?_
  refine z_iconst (v := (-1)) C (by decide +kernel) dX4_countRuns_2 ?_
  refine z_istore (ls' := [some (.ref (n0 + 0)), some (.ref (n0 + a)), some (.ref (n0 + b)), some (.int 0), some (.int ((-1))), none, none]) C (by decide) rfl dX4_countRuns_3 ?_
  refine z_iconst (v := 0) C (by decide +kernel) dX4_countRuns_5 ?_
  refine z_istore (ls' := [some (.ref (n0 + 0)), some (.ref (n0 + a)), some (.ref (n0 + b)), some (.int 0), some (.int ((-1))), some (.int 0), none]) C (by decide) rfl dX4_countRuns_6 ?_
  refine z_cast (σ1 := (κ, μ, o)) (ls' := [some (.ref (n0 + 0)), some (.ref (n0 + a)), some (.ref (n0 + b)), some (.int (nI (sumTo (cRn1 κ a b) 0))), some (.int (cBf κ a b 0)), some (.int (nI 0)), none]) (st' := []) (z_for (P := fun i => ZZ pp l ee (rmk 2 46) ss mm aa bb me cd D n0 127 7 0 0 Q (κ, μ, o) 8 [some (.ref (n0 + 0)), some (.ref (n0 + a)), some (.ref (n0 + b)), some (.int (nI (sumTo (cRn1 κ a b) i))), some (.int (cBf κ a b i)), some (.int (nI i)), none] []) (40) ?_ ?_ 0 (Nat.zero_le _)) rfl ⟨rfl, rfl, rfl, (so_int rfl), (so_int rfl), rfl, trivial⟩ rfl
  · skip
    refine z_iload C rfl dX4_countRuns_8 ?_
    refine z_bipush (v := 40) C (by decide +kernel) dX4_countRuns_10 ?_
    refine z_icmp_ge (tgt := 51) C dX4_countRuns_12 (by decide) (fun h_12 => ?_) (fun h_12 => ?_)
    · have g_12 := cv_le (a := 40) (b := 40) (by omega) (by omega) h_12
      refine z_iload_n C rfl dX4_countRuns_51 ?_
      exact z_endI (hret _ _ dX4_countRuns_52) rfl rfl
    · have g_12 := cv_nle (a := 40) (b := 40) (by omega) (by omega) h_12
      exact absurd g_12 (by omega)
  · intro i hi_8 ih_8
    refine z_iload C rfl dX4_countRuns_8 ?_
    refine z_bipush (v := 40) C (by decide +kernel) dX4_countRuns_10 ?_
    refine z_icmp_ge (tgt := 51) C dX4_countRuns_12 (by decide) (fun h_12 => ?_) (fun h_12 => ?_)
    · have g_12 := cv_le (a := 40) (b := i) (by omega) (by omega) h_12
      exact absurd hi_8 (by omega)
    · have g_12 := cv_nle (a := 40) (b := i) (by omega) (by omega) h_12
      refine z_aload_n C rfl dX4_countRuns_15 ?_
      refine z_aload_n C rfl dX4_countRuns_16 ?_
      refine z_aload_n C rfl dX4_countRuns_17 ?_
      refine z_iload C rfl dX4_countRuns_18 ?_
      refine z_callV (As := [.ref (n0 + a), .ref (n0 + b), .int (nI i)]) (r := (some (.int (cSort κ a b i)))) (σ1 := (κ, μ, o)) (st := []) (st1 := [.int (cSort κ a b i)]) C K ok_X4_322 (c_X4_sortOf l D n0 κ μ o a b ha hb i (by omega)) enc_0 (by decide) rfl rfl ⟨by decide, by decide⟩ ⟨Nat.zero_le _, Nat.zero_le _⟩ (by simp [Value.category]) dX4_countRuns_20 rfl rfl ?_
      refine z_istore (ls' := [some (.ref (n0 + 0)), some (.ref (n0 + a)), some (.ref (n0 + b)), some (.int (nI (sumTo (cRn1 κ a b) i))), some (.int (cBf κ a b i)), some (.int (nI i)), some (.int (cSort κ a b i))]) C (by decide) rfl dX4_countRuns_23 ?_
      refine z_iload C rfl dX4_countRuns_25 ?_
      refine z_iconst (v := (-1)) C (by decide +kernel) dX4_countRuns_27 ?_
      refine z_icmp_eq (tgt := 41) C dX4_countRuns_28 (by decide) (fun h_28 => ?_) (fun h_28 => ?_)
      · skip
        refine z_iload C rfl dX4_countRuns_41 ?_
        refine z_istore (ls' := [some (.ref (n0 + 0)), some (.ref (n0 + a)), some (.ref (n0 + b)), some (.int (nI (sumTo (cRn1 κ a b) i))), some (.int (cSort κ a b i)), some (.int (nI i)), some (.int (cSort κ a b i))]) C (by decide) rfl dX4_countRuns_43 ?_
        refine z_iinc (v := nI (i + 1)) (ls' := [some (.ref (n0 + 0)), some (.ref (n0 + a)), some (.ref (n0 + b)), some (.int (nI (sumTo (cRn1 κ a b) i))), some (.int (cSort κ a b i)), some (.int (nI (i + 1))), some (.int (cSort κ a b i))]) C rfl (cv_inc i 1) (by decide) rfl dX4_countRuns_45 ?_
        refine z_goto (tgt := 8) C dX4_countRuns_48 (by decide) ?_
        exact z_cast (σ1 := (κ, μ, o)) (ls' := [some (.ref (n0 + 0)), some (.ref (n0 + a)), some (.ref (n0 + b)), some (.int (nI (sumTo (cRn1 κ a b) (i + 1)))), some (.int (cBf κ a b (i + 1))), some (.int (nI (i + 1))), none]) (st' := []) (ih_8) rfl ⟨rfl, rfl, rfl, (so_int (by rw [sumTo, cRn1, if_pos h_28]; rfl)), (so_int rfl), rfl, trivial⟩ rfl
      · skip
        refine z_iload C rfl dX4_countRuns_31 ?_
        refine z_iload C rfl dX4_countRuns_33 ?_
        refine z_icmp_eq (tgt := 41) C dX4_countRuns_35 (by decide) (fun h_35 => ?_) (fun h_35 => ?_)
        · skip
          refine z_iload C rfl dX4_countRuns_41 ?_
          refine z_istore (ls' := [some (.ref (n0 + 0)), some (.ref (n0 + a)), some (.ref (n0 + b)), some (.int (nI (sumTo (cRn1 κ a b) i))), some (.int (cSort κ a b i)), some (.int (nI i)), some (.int (cSort κ a b i))]) C (by decide) rfl dX4_countRuns_43 ?_
          refine z_iinc (v := nI (i + 1)) (ls' := [some (.ref (n0 + 0)), some (.ref (n0 + a)), some (.ref (n0 + b)), some (.int (nI (sumTo (cRn1 κ a b) i))), some (.int (cSort κ a b i)), some (.int (nI (i + 1))), some (.int (cSort κ a b i))]) C rfl (cv_inc i 1) (by decide) rfl dX4_countRuns_45 ?_
          refine z_goto (tgt := 8) C dX4_countRuns_48 (by decide) ?_
          exact z_cast (σ1 := (κ, μ, o)) (ls' := [some (.ref (n0 + 0)), some (.ref (n0 + a)), some (.ref (n0 + b)), some (.int (nI (sumTo (cRn1 κ a b) (i + 1)))), some (.int (cBf κ a b (i + 1))), some (.int (nI (i + 1))), none]) (st' := []) (ih_8) rfl ⟨rfl, rfl, rfl, (so_int (by rw [sumTo, cRn1, if_neg h_28, if_pos h_35]; rfl)), (so_int rfl), rfl, trivial⟩ rfl
        · skip
          refine z_iinc (v := nI (sumTo (cRn1 κ a b) i + 1)) (ls' := [some (.ref (n0 + 0)), some (.ref (n0 + a)), some (.ref (n0 + b)), some (.int (nI (sumTo (cRn1 κ a b) i + 1))), some (.int (cBf κ a b i)), some (.int (nI i)), some (.int (cSort κ a b i))]) C rfl (cv_inc (sumTo (cRn1 κ a b) i) 1) (by decide) rfl dX4_countRuns_38 ?_
          refine z_iload C rfl dX4_countRuns_41 ?_
          refine z_istore (ls' := [some (.ref (n0 + 0)), some (.ref (n0 + a)), some (.ref (n0 + b)), some (.int (nI (sumTo (cRn1 κ a b) i + 1))), some (.int (cSort κ a b i)), some (.int (nI i)), some (.int (cSort κ a b i))]) C (by decide) rfl dX4_countRuns_43 ?_
          refine z_iinc (v := nI (i + 1)) (ls' := [some (.ref (n0 + 0)), some (.ref (n0 + a)), some (.ref (n0 + b)), some (.int (nI (sumTo (cRn1 κ a b) i + 1))), some (.int (cSort κ a b i)), some (.int (nI (i + 1))), some (.int (cSort κ a b i))]) C rfl (cv_inc i 1) (by decide) rfl dX4_countRuns_45 ?_
          refine z_goto (tgt := 8) C dX4_countRuns_48 (by decide) ?_
          exact z_cast (σ1 := (κ, μ, o)) (ls' := [some (.ref (n0 + 0)), some (.ref (n0 + a)), some (.ref (n0 + b)), some (.int (nI (sumTo (cRn1 κ a b) (i + 1)))), some (.int (cBf κ a b (i + 1))), some (.int (nI (i + 1))), none]) (st' := []) (ih_8) rfl ⟨rfl, rfl, rfl, (so_int (by rw [sumTo, cRn1, if_neg h_28, if_neg h_35])), (so_int rfl), rfl, trivial⟩ rfl
