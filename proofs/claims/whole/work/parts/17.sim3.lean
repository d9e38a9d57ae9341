/-! the class's cells κ and the model's μ, side by side -/
def MV (κ μ : KH) (k g : Nat) : Prop := κ k 0 = μ 1 g ∧ (κ k 0 ≠ 0 → κ k 1 = μ 3 g ∧ κ k 2 = μ 2 g ∧ κ k 3 = μ 4 g ∧ κ k 4 = μ 5 g ∧ (∀ p, p < 40 → κ (k + 1) p = μ 6 (40 * g + p)) ∧ ∃ z : Nat, z ≤ 40 ∧ κ k 2 = nI z ∧ ∀ p, z ≤ p → p < 40 → κ (k + 1) p = -1)
def MR (κ μ : KH) (b s : Nat) : Prop := (∀ v, v < 16 → MV κ μ (b + 2 + 2 * v) (16 * s + v)) ∧ κ b 0 = μ 7 s
def eqG (μ μ' : KH) (g g' : Nat) : Prop := μ' 1 g' = μ 1 g ∧ μ' 2 g' = μ 2 g ∧ μ' 3 g' = μ 3 g ∧ μ' 4 g' = μ 4 g ∧ μ' 5 g' = μ 5 g ∧ ∀ p, p < 40 → μ' 6 (40 * g' + p) = μ 6 (40 * g + p)
theorem MV.cg {κ κ' μ μ' : KH} {k k' g g' : Nat} (h : MV κ μ k g) (he : eqV κ κ' k k') (hg : eqG μ μ' g g') : MV κ' μ' k' g' := by
  obtain ⟨h1, h2⟩ := h
  obtain ⟨e1, e2⟩ := he
  obtain ⟨g1, g2, g3, g4, g5, g6⟩ := hg
  refine ⟨by rw [e1 0 (by omega), g1]; exact h1, fun hn => ?_⟩
  rw [e1 0 (by omega)] at hn
  obtain ⟨a1, a2, a3, a4, a5, z, a6, a7, a8⟩ := h2 hn
  exact ⟨by rw [e1 1 (by omega), g3]; exact a1, by rw [e1 2 (by omega), g2]; exact a2, by rw [e1 3 (by omega), g4]; exact a3, by rw [e1 4 (by omega), g5]; exact a4, fun p hp => by rw [e2 p hp, g6 p hp]; exact a5 p hp, z, a6, by rw [e1 2 (by omega)]; exact a7, fun p h1 h2 => by rw [e2 p h2]; exact a8 p h1 h2⟩
theorem eqV.rf {κ κ' : KH} {k : Nat} (h1 : κ' k = κ k) (h2 : κ' (k + 1) = κ (k + 1)) : eqV κ κ' k k := ⟨fun i _ => by rw [h1], fun p _ => by rw [h2]⟩
theorem eqG.rf {μ μ' : KH} {g : Nat} (h : ∀ c, 1 ≤ c → c ≤ 6 → μ' c = μ c) : eqG μ μ' g g :=
  ⟨by rw [h 1 (by omega) (by omega)], by rw [h 2 (by omega) (by omega)], by rw [h 3 (by omega) (by omega)], by rw [h 4 (by omega) (by omega)], by rw [h 5 (by omega) (by omega)], fun p _ => by rw [h 6 (by omega) (by omega)]⟩
theorem MR.cg {κ κ' μ μ' : KH} {b b' s s' : Nat} (h : MR κ μ b s) (he : eqS κ κ' b b') (hg : ∀ v, v < 16 → eqG μ μ' (16 * s + v) (16 * s' + v)) (h7 : μ' 7 s' = μ 7 s) : MR κ' μ' b' s' :=
  ⟨fun v hv => (h.1 v hv).cg (he.1 v hv) (hg v hv), by rw [he.2.2.1, h7]; exact h.2⟩
theorem eqS.rf {κ κ' : KH} {b : Nat} (he : ∀ c, b ≤ c → c ≤ b + 34 → κ' c = κ c) : eqS κ κ' b b :=
  ⟨fun v hv => eqV.rf (he _ (by omega) (by omega)) (he _ (by omega) (by omega)), fun e _ => by rw [he _ (by omega) (by omega)], by rw [he _ (by omega) (by omega)], by rw [he _ (by omega) (by omega)]⟩
theorem MR.same {κ κ' μ μ' : KH} {b s : Nat} (h : MR κ μ b s) (he : ∀ c, b ≤ c → c ≤ b + 34 → κ' c = κ c) (hg : ∀ v, v < 16 → eqG μ μ' (16 * s + v) (16 * s + v)) (h7 : μ' 7 s = μ 7 s) : MR κ' μ' b s := h.cg (eqS.rf he) hg h7
theorem MR.same2 {κ κ' μ μ' : KH} {b s : Nat} (h : MR κ μ b s) (he : ∀ c, b ≤ c → c ≤ b + 34 → κ' c = κ c) (hg : ∀ c, 1 ≤ c → c ≤ 7 → μ' c = μ c) : MR κ' μ' b s := h.same he (fun v _ => eqG.rf (fun c h1 h2 => hg c h1 (by omega))) (by rw [hg 7 (by omega) (by omega)])
def R3 (κ μ : KH) (n : Nat) : Prop := (CI κ 1 n ∧ MR κ μ 1 0) ∧ (CI κ 36 n ∧ MR κ μ 36 1) ∧ (CI κ 71 n ∧ MR κ μ 71 2)
theorem R3.same {κ κ' μ μ' : KH} {n : Nat} (h : R3 κ μ n) (he : ∀ c, 1 ≤ c → c < 106 → κ' c = κ c) (hg : ∀ c, 1 ≤ c → c ≤ 7 → μ' c = μ c) : R3 κ' μ' n :=
  ⟨⟨h.1.1.same (fun c h1 h2 => he c h1 (by omega)), h.1.2.same2 (fun c h1 h2 => he c h1 (by omega)) hg⟩, ⟨h.2.1.1.same (fun c h1 h2 => he c (by omega) (by omega)), h.2.1.2.same2 (fun c h1 h2 => he c (by omega) (by omega)) hg⟩, ⟨h.2.2.1.same (fun c h1 h2 => he c (by omega) (by omega)), h.2.2.2.same2 (fun c h1 h2 => he c (by omega) (by omega)) hg⟩⟩
theorem live0 {κ μ : KH} {v : Nat} (h : MR κ μ 1 0) (hv : v < 16) : κ (cVk v) 0 = μ 1 v := by
  have h1 := (h.1 v hv).1
  rw [show 16 * 0 + v = v by omega] at h1
  exact h1
theorem live {κ μ : KH} {v : Nat} (h : MR κ μ 1 0) (hv : v < 16) (h0 : κ (cVk v) 0 ≠ 0) : κ (cVk v) 1 = μ 3 v ∧ κ (cVk v) 2 = μ 2 v ∧ κ (cVk v) 3 = μ 4 v ∧ κ (cVk v) 4 = μ 5 v ∧ (∀ p, p < 40 → κ (cVk v + 1) p = μ 6 (40 * v + p)) ∧ ∃ z : Nat, z ≤ 40 ∧ κ (cVk v) 2 = nI z ∧ ∀ p, z ≤ p → p < 40 → κ (cVk v + 1) p = -1 := by
  have h1 := (h.1 v hv).2 h0
  rw [show 16 * 0 + v = v by omega] at h1
  exact h1
theorem CIv {κ : KH} {v n : Nat} (h : CI κ 1 n) (hv : v < 16) : CV κ (cVk v) n := h.1 v hv
/-! what is counted is the same -/
theorem mUse_eq {κ μ : KH} {b s e n : Nat} (hC : CI κ b n) (h : MR κ μ b s) (he : e < 2 ^ 31) : mUse μ s (nI e) = cUs κ b (nI e) := by
  refine sumTo_congr 16 (fun v hv => ?_)
  obtain ⟨a1, a2⟩ := h.1 v hv
  unfold mF cGs
  by_cases h0 : κ (b + 2 + 2 * v) 0 = 0
  · rw [if_pos (by rw [← a1]; exact h0)]
    exact (sumTo_z 40 (fun p hp => by unfold cG; rw [(hC.1 v hv).2.2.2.2.1 h0 p hp, if_neg (fun q => nI_m1 he q.symm)])).symm
  · rw [if_neg (by rw [← a1]; exact h0)]
    refine sumTo_congr 40 (fun p hp => ?_)
    unfold mG cG
    rw [(a2 h0).2.2.2.2.1 p hp]
section EQS
variable {κ μ : KH} {n : Nat}
theorem R3.u1 (h : R3 κ μ n) {e : Nat} (he : e < 96) : κ 35 e = nI (mUse μ 0 (nI e)) := by
  rw [mUse_eq h.1.1 h.1.2 (by omega)]; exact h.1.1.2.1 e he
theorem R3.u2 (h : R3 κ μ n) {e : Nat} (he : e < 96) : κ 70 e = nI (mUse μ 1 (nI e)) := by
  rw [mUse_eq h.2.1.1 h.2.1.2 (by omega)]; exact h.2.1.1.2.1 e he
theorem R3.u3 (h : R3 κ μ n) {e : Nat} (he : e < 96) : κ 105 e = nI (mUse μ 2 (nI e)) := by
  rw [mUse_eq h.2.2.1 h.2.2.2 (by omega)]; exact h.2.2.1.2.1 e he
theorem nI_z {a : Nat} (h : a < 2 ^ 31) : nI a = 0 ↔ a = 0 := ⟨fun q => cv_eq h (by decide) (q.trans nI_0.symm), fun q => by rw [q]; rfl⟩
theorem nI_o {a : Nat} (h : a < 2 ^ 31) : nI a = 1 ↔ a = 1 := ⟨fun q => cv_eq h (by decide) (q.trans (show (1 : Int32) = nI 1 from rfl)), fun q => by rw [q]; rfl⟩
theorem free_eq (h : R3 κ μ n) {e : Nat} (he : e < 96) : cFree κ e = mFree μ (nI e) := by
  have b0 := mUse_le μ 0 (nI e)
  have b1 := mUse_le μ 1 (nI e)
  have b2 := mUse_le μ 2 (nI e)
  unfold cFree mFree
  rw [h.u1 he, h.u2 he, h.u3 he, cv_add, cv_add]
  exact decide_eq_decide.mpr (nI_z (by omega))
theorem sole_eq (h : R3 κ μ n) {e : Nat} (he : e < 96) : cSole κ e = mSole μ (nI e) := by
  have b0 := mUse_le μ 0 (nI e)
  have b1 := mUse_le μ 1 (nI e)
  have b2 := mUse_le μ 2 (nI e)
  unfold cSole mSole
  rw [h.u1 he, h.u2 he, h.u3 he, cv_add]
  rw [decide_eq_decide.mpr (nI_o (show mUse μ 0 (nI e) < 2 ^ 31 by omega)), decide_eq_decide.mpr (nI_z (show mUse μ 1 (nI e) + mUse μ 2 (nI e) < 2 ^ 31 by omega))]
theorem fm_eq (h : R3 κ μ n) {m : Nat} (hm : m ≤ 96) : cFM κ m = mFM μ m :=
  sumTo_congr m (fun e he => by unfold cFr1 mFr1; rw [free_eq h (by omega)])
theorem need_eq (h : R3 κ μ n) (hn : n ≤ 96) {v p : Nat} (hv : v < 16) (hp : p < 40) (h0 : κ (cVk v) 0 ≠ 0) : cNeed κ (cVk v) p = mNeed μ v p := by
  have hx := (live h.1.2 hv h0).2.2.2.2.1 p hp
  have hX := (CIv h.1.1 hv).2.2.2.1 p hp
  unfold cNeed mNeed
  rw [← hx]
  rcases hX with hm | ⟨e, he, hm⟩
  · rw [hm, cSol_m]; simp
  · rw [hm, cSol_n (by omega), sole_eq h (by omega)]; simp [nI_m1 (show e < 2 ^ 31 by omega)]
theorem map_eq (h : R3 κ μ n) {v : Nat} (hv : v < 16) (h0 : κ (cVk v) 0 ≠ 0) : mMap μ v = cMp κ (cVk v) :=
  sumTo_congr 40 (fun p hp => by unfold mMp1 cMp1; rw [(live h.1.2 hv h0).2.2.2.2.1 p hp])
theorem over_eq (h : R3 κ μ n) {v p : Nat} (hv : v < 16) (hp : p < 40) (h0 : κ (cVk v) 0 ≠ 0) : cOver κ (cVk v) p = mOver μ v p := by
  obtain ⟨a1, a2, a3, a4, a5, a6⟩ := live h.1.2 hv h0
  unfold cOver mOver
  rw [← a5 p hp, ← a3, map_eq h hv h0, ← (CIv h.1.1 hv).2.2.1]
theorem fnd_eq (h : R3 κ μ n) {m : Nat} (hm : m ≤ 96) : ∀ k e, e < m → cFnd κ m k e = fndE μ m k e
  | 0, _, _ => rfl
  | k + 1, e, he => by
    rw [cFnd, fndE, free_eq h (by omega)]
    split
    · rfl
    · exact fnd_eq h hm k _ (by unfold nx; split <;> omega)
end EQS
def RP (κ μ : KH) (n : Nat) : Prop := κ 106 0 = nI n ∧ μ 0 9 = nI n ∧ 1 ≤ n ∧ n ≤ 96 ∧ (∃ c : Nat, c < n ∧ κ 106 1 = nI c ∧ μ 0 12 = nI c) ∧ κ 106 2 = μ 0 13 ∧ κ 106 3 = μ 0 14 ∧ κ 106 4 = μ 0 15
def RW (κ μ : KH) : Prop := (∀ i, i < 384 → κ 107 i = μ 8 i) ∧ ∀ i, i < 160 → κ 112 i = μ 9 i
section POOL
variable {κ μ : KH} {n : Nat}
theorem RP.nCe (h : RP κ μ n) : nC κ = n := by
  have := h.2.2.2.1
  unfold nC; rw [h.1]; exact tn_nI (by omega)
theorem RP.nEe (h : RP κ μ n) : nE μ = n := by
  have := h.2.2.2.1
  unfold nE; rw [h.2.1]; exact tn_nI (by omega)
theorem RP.tk (h : RP κ μ n) (h3 : R3 κ μ n) : cTkE κ = mTkE μ := by
  obtain ⟨c, hc, c1, c2⟩ := h.2.2.2.2.1
  have := h.2.2.2.1
  unfold cTkE mTkE
  rw [h.nCe, h.nEe, c1, c2, tn_nI (by omega)]
  exact fnd_eq h3 (by omega) _ _ hc
theorem isV_ex {k : Nat} (hk : isV k) : ∃ b v : Nat, isS b ∧ v < 16 ∧ k = b + 2 + 2 * v := by
  obtain ⟨h1, h2, h3, h4, h5⟩ := hk
  obtain ⟨q, rfl⟩ : ∃ q, k = q + 1 := ⟨k - 1, by omega⟩
  rw [Nat.add_sub_cancel] at h3 h4 h5
  have h6 : q = 35 * (q / 35) + q % 35 := (Nat.div_add_mod q 35).symm
  have h7 : q / 35 = 0 ∨ q / 35 = 1 ∨ q / 35 = 2 := by omega
  rcases h7 with h | h | h
  · exact ⟨1, (q % 35 - 2) / 2, Or.inl rfl, by omega, by omega⟩
  · exact ⟨36, (q % 35 - 2) / 2, Or.inr (Or.inl rfl), by omega, by omega⟩
  · exact ⟨71, (q % 35 - 2) / 2, Or.inr (Or.inr rfl), by omega, by omega⟩
theorem R3.ci (h : R3 κ μ n) {b : Nat} (hb : isS b) : CI κ b n := by
  rcases hb with rfl | rfl | rfl
  · exact h.1.1
  · exact h.2.1.1
  · exact h.2.2.1
theorem R3.aX (h : R3 κ μ n) {k : Nat} (hk : isV k) (q : Nat) : isX (κ (k + 1) q) := by
  obtain ⟨b, v, hb, hv, rfl⟩ := isV_ex hk
  exact ((h.ci hb).1 v hv).2.2.2.2.2 q
theorem RP.cJ (h : RP κ μ n) (h3 : R3 κ μ n) : cJ κ := by
  obtain ⟨c, hc, c1, c2⟩ := h.2.2.2.2.1
  have := h.2.2.2.1
  refine ⟨?_, by rw [h.nCe]; exact h.2.2.1, ?_, fun k hk q => h3.aX hk q⟩
  · rw [h.1]; exact isN_nI (by omega) (by omega)
  · rw [h.nCe, c1]; exact isN_nI hc (by omega)
theorem RP.mJ (h : RP κ μ n) (hX : ∀ j, isX (μ 6 j)) : mJ μ := by
  obtain ⟨c, hc, c1, c2⟩ := h.2.2.2.2.1
  have := h.2.2.2.1
  refine ⟨?_, by rw [h.nEe]; exact h.2.2.1, ?_, hX⟩
  · rw [h.2.1]; exact isN_nI (by omega) (by omega)
  · rw [h.nEe, c2]; exact isN_nI hc (by omega)
theorem word_eq {v w k : Nat} (hw : w < 160) (hx : κ (k + 1) (w / 4) = μ 6 (40 * v + w / 4)) (h1 : κ k 1 = μ 3 v) (hX : isXn 96 (κ (k + 1) (w / 4))) (hW : RW κ μ) : cWord κ k w = mWord μ v w := by
  unfold cWord mWord
  rw [← hx, h1]
  rcases hX with hm | ⟨e, he, hm⟩
  · rw [if_pos hm, if_pos hm, hW.2 w hw]
  · rw [hm, if_neg (nI_m1 (by omega)), if_neg (nI_m1 (by omega)), tn_nI (by omega), nI_clamp (by omega), hW.1 _ (by omega)]
    congr 1
    omega
/-- the words of an extent that is taken -/
theorem cw_eq {v q k E : Nat} (hv : v < 16) (hq : q < 40) (hE : E < 96) (hk : isV k) (hx : κ (k + 1) q = μ 6 (40 * v + q)) (h1 : κ k 1 = μ 3 v) (hX : isXn 96 (κ (k + 1) q)) (hW : RW κ μ) (n' : Nat) : ∀ j, j ≤ 4 → ∀ i, i < 384 → iterK (cCw1 k q E) j (cTk κ n' E) 107 i = iterK (mCw1 v q E) j μ 8 i
  | 0, _, i, hi => by
    show cTk κ n' E 107 i = μ 8 i
    rw [cTk_o (by decide)]; exact hW.1 i hi
  | j + 1, hj, i, hi => by
    have ih := cw_eq hv hq hE hk hx h1 hX hW n' j (by omega)
    have hl := isV_lo hk
    show up (iterK (cCw1 k q E) j (cTk κ n' E)) 107 (E * 4 + j) (cWord (iterK (cCw1 k q E) j (cTk κ n' E)) k (q * 4 + j)) 107 i = up (iterK (mCw1 v q E) j μ) 8 (4 * E + j) (mWord (iterK (mCw1 v q E) j μ) v (4 * q + j)) 8 i
    have k1 : iterK (cCw1 k q E) j (cTk κ n' E) (k + 1) = κ (k + 1) := by rw [cCw_o (by omega), cTk_o (by omega)]
    have k2 : iterK (cCw1 k q E) j (cTk κ n' E) k = κ k := by rw [cCw_o (by omega), cTk_o (by omega)]
    have k3 : iterK (cCw1 k q E) j (cTk κ n' E) 112 = κ 112 := by rw [cCw_o (by omega), cTk_o (by omega)]
    have hdq : (4 * q + j) / 4 = q := by omega
    have hwd : cWord (iterK (cCw1 k q E) j (cTk κ n' E)) k (4 * q + j) = mWord (iterK (mCw1 v q E) j μ) v (4 * q + j) := by
      refine word_eq (by omega) ?_ ?_ ?_ ⟨ih, fun i hi => ?_⟩
      · rw [k1, mCw_6 μ v q E (by decide), hdq]; exact hx
      · rw [k2, mCw_6 μ v q E (by decide)]; exact h1
      · rw [k1, hdq]; exact hX
      · rw [k3, mCw_6 μ v q E (by decide)]; exact hW.2 i hi
    rw [show q * 4 + j = 4 * q + j by omega, show E * 4 + j = 4 * E + j by omega, hwd]
    by_cases hij : i = 4 * E + j
    · subst hij; rw [up_self, up_self]
    · rw [up_ix hij, up_ix hij]; exact ih i hi
end POOL
/-! a write that is done -/
theorem mTk3_o (μ : KH) (v p c : Nat) (h0 : c ≠ 0) (h6 : c ≠ 6) (h8 : c ≠ 8) : mTk3 μ v p (mTkE μ) (nE μ) c = μ c := by
  have h := mTake_oth μ v p c h0 h6 h8
  unfold mTake at h
  rwa [up_cell h0] at h
theorem mTk3_6 (μ : KH) (v p i : Nat) : mTk3 μ v p (mTkE μ) (nE μ) 6 i = if i = 40 * v + p then nI (mTkE μ) else μ 6 i := by
  have h := mTake_6 μ v p i
  unfold mTake at h
  rwa [up_cell (by decide)] at h
theorem mTake_8 (μ : KH) (v p : Nat) : mTake μ v p 8 = iterK (mCw1 v p (mTkE μ)) 4 μ 8 := by
  unfold mTake mTk3
  rw [up_cell (by decide), up_cell (by decide), up_cell (by decide), up_cell (by decide)]
  rfl
theorem mTake_15 (μ : KH) (v p : Nat) : mTake μ v p 0 15 = μ 0 15 + 1 := by
  unfold mTake mTk3
  rw [up_ix (by decide), up_self]
theorem eqG_6 {μ μ' : KH} {g : Nat} (h : ∀ c, 1 ≤ c → c ≤ 5 → μ' c = μ c) (h6 : ∀ p, p < 40 → μ' 6 (40 * g + p) = μ 6 (40 * g + p)) : eqG μ μ' g g :=
  ⟨by rw [h 1 (by omega) (by omega)], by rw [h 2 (by omega) (by omega)], by rw [h 3 (by omega) (by omega)], by rw [h 4 (by omega) (by omega)], by rw [h 5 (by omega) (by omega)], h6⟩
theorem R3_take {κ μ : KH} {n v w z : Nat} {x : Int32} (h3 : R3 κ μ n) (hP : RP κ μ n) (hv : v < 16) (h0 : κ (cVk v) 0 ≠ 0) (hz : κ (cVk v) 2 = nI z) (hz40 : z ≤ 40) (hw : w < 4 * z) (hE : mTkE μ < n) : R3 (cPm1 κ (cVk v) w x) (mTk3 μ v (w / 4) (mTkE μ) (nE μ)) n := by
  have hk := isVk hv
  have hl := cVk_lt hv
  have hn := hP.2.2.2.1
  have hT : cTkE κ = mTkE μ := hP.tk h3
  have c0 : ∀ c, c ≤ 105 → cPm0 κ (cVk v) w x (cTkE κ) c = κ c := fun c hc => cPm0_o (by omega) (by omega)
  have c1 : ∀ c, c ≤ 105 → c ≠ 35 → c ≠ cVk v → c ≠ cVk v + 1 → cPm1 κ (cVk v) w x c = κ c := fun c h1 h2 h3 h4 => by
    unfold cPm1; rw [cSet_o h2 h3 h4, c0 c h1]
  have hx : ∀ v' p, v' < 16 → p < 40 → cPm1 κ (cVk v) w x (1 + 2 + 2 * v' + 1) p = if v' = v ∧ p = w / 4 then nI (mTkE μ) else κ (1 + 2 + 2 * v' + 1) p := fun v' p hv' hp => by
    by_cases hvv : v' = v
    · subst hvv
      unfold cPm1
      show cSet _ 1 (cVk v') _ _ (cVk v' + 1) p = _
      rw [cSet_ext okS1 hk, c0 _ (by omega), hT]
      by_cases hpp : p = w / 4
      · rw [if_pos hpp, if_pos ⟨rfl, hpp⟩]
      · rw [if_neg hpp, if_neg (fun q => hpp q.2)]; rfl
    · rw [c1 _ (by omega) (by omega) (by unfold cVk; omega) (by unfold cVk; omega), if_neg (fun q => hvv q.1)]
  have hb : ∀ i, cPm1 κ (cVk v) w x 1 i = κ 1 i := fun i => by rw [c1 1 (by omega) (by omega) (by omega) (by omega)]
  have m6 := mTk3_6 μ v (w / 4)
  have mo : ∀ c, 1 ≤ c → c ≤ 7 → c ≠ 6 → mTk3 μ v (w / 4) (mTkE μ) (nE μ) c = μ c := fun c h1 h2 h6 => mTk3_o μ v _ c (by omega) h6 (by omega)
  refine ⟨⟨?_, ?_⟩, ⟨?_, ?_⟩, ⟨?_, ?_⟩⟩
  · have hC0 : CI (cPm0 κ (cVk v) w x (cTkE κ)) 1 n := h3.1.1.same (fun c h1 h2 => c0 c (by omega))
    refine CI_set (v := v) okS1 hv (by omega) hn hC0 (Or.inr ⟨cTkE κ, by omega, rfl⟩) (Or.inr ?_)
    show cPm0 κ (cVk v) w x (cTkE κ) (cVk v) 0 ≠ 0
    rw [c0 _ (by omega)]; exact h0
  · refine ⟨fun v' hv' => ?_, by rw [hb, mo 7 (by omega) (by omega) (by omega)]; exact h3.1.2.2⟩
    by_cases hvv : v' = v
    · subst hvv
      obtain ⟨a1, a2⟩ := h3.1.2.1 v' hv'
      have hf : ∀ i, i ≠ 5 → cPm1 κ (cVk v') w x (1 + 2 + 2 * v') i = κ (1 + 2 + 2 * v') i := fun i hi => by
        unfold cPm1
        show cSet _ 1 (cVk v') _ _ (cVk v') i = _
        rw [cSetf (by omega) hi, c0 _ (by omega)]; rfl
      obtain ⟨d1, d2, d3, d4, d5, z', d6, d7, d8⟩ := a2 h0
      have hzz : z' = z := cv_eq (by omega) (by omega) (d7.symm.trans hz)
      subst hzz
      refine ⟨by rw [hf 0 (by decide), mo 1 (by omega) (by omega) (by omega)]; exact a1, fun _ => ⟨by rw [hf 1 (by decide), mo 3 (by omega) (by omega) (by omega)]; exact d1, by rw [hf 2 (by decide), mo 2 (by omega) (by omega) (by omega)]; exact d2, by rw [hf 3 (by decide), mo 4 (by omega) (by omega) (by omega)]; exact d3, by rw [hf 4 (by decide), mo 5 (by omega) (by omega) (by omega)]; exact d4, fun p hp => ?_, z', d6, by rw [hf 2 (by decide)]; exact d7, fun p h1 h2 => ?_⟩⟩
      · rw [hx v' p hv' hp, m6]
        by_cases hpp : p = w / 4
        · rw [if_pos ⟨rfl, hpp⟩, if_pos (by omega)]
        · rw [if_neg (fun q => hpp q.2), if_neg (by omega)]; exact d5 p hp
      · rw [hx v' p hv' h2, if_neg (by omega)]; exact d8 p h1 h2
    · refine (h3.1.2.1 v' hv').cg (eqV.rf (c1 _ (by omega) (by omega) (by unfold cVk; omega) (by unfold cVk; omega)) (c1 _ (by omega) (by omega) (by unfold cVk; omega) (by unfold cVk; omega))) (eqG_6 (fun c h1 h2 => mo c h1 (by omega) (by omega)) (fun p hp => ?_))
      rw [m6, if_neg (by omega)]
  · exact h3.2.1.1.same (fun c h1 h2 => c1 c (by omega) (by omega) (by omega) (by omega))
  · refine h3.2.1.2.same (fun c h1 h2 => c1 c (by omega) (by omega) (by omega) (by omega)) (fun v' hv' => eqG_6 (fun c h1 h2 => mo c h1 (by omega) (by omega)) (fun p hp => ?_)) (by rw [mo 7 (by omega) (by omega) (by omega)])
    rw [m6, if_neg (by omega)]
  · exact h3.2.2.1.same (fun c h1 h2 => c1 c (by omega) (by omega) (by omega) (by omega))
  · refine h3.2.2.2.same (fun c h1 h2 => c1 c (by omega) (by omega) (by omega) (by omega)) (fun v' hv' => eqG_6 (fun c h1 h2 => mo c h1 (by omega) (by omega)) (fun p hp => ?_)) (by rw [mo 7 (by omega) (by omega) (by omega)])
    rw [m6, if_neg (by omega)]
theorem cPm1_4 {κ : KH} {k w : Nat} {x : Int32} (hk : isV k) : cPm1 κ k w x 106 4 = κ 106 4 + 1 := by
  unfold cPm1
  rw [cSet_o (by decide) (isV_o hk).1 (isV_o hk).2.1, cPm0_106]
  unfold cTk
  rw [up_self]
theorem cPm1_7 {κ : KH} {k w : Nat} {x : Int32} (hk : isV k) : cPm1 κ k w x 107 = cPm0 κ k w x (cTkE κ) 107 := by
  unfold cPm1
  rw [cSet_o (by decide) (isV_o hk).2.2.1 (isV_o hk).2.2.2.1]
theorem sim_perf {κ μ : KH} {n v w z : Nat} {x : Int32} (h3 : R3 κ μ n) (hP : RP κ μ n) (hW : RW κ μ) (hX : ∀ j, isX (μ 6 j)) (hv : v < 16) (h0 : κ (cVk v) 0 ≠ 0) (hz : κ (cVk v) 2 = nI z) (hz40 : z ≤ 40) (hw : w < 4 * z) (hf : mNeed μ v (w / 4) = true → mFM μ n ≠ 0) :
    R3 (cPerf κ (cVk v) w x) (mPerf μ v w x) n ∧ RP (cPerf κ (cVk v) w x) (mPerf μ v w x) n ∧ RW (cPerf κ (cVk v) w x) (mPerf μ v w x) ∧ cPerR κ (cVk v) w = mPerR μ v w := by
  have hk := isVk hv
  have hl := cVk_lt hv
  have hn := hP.2.2.2.1
  have hne : cNeed κ (cVk v) (w / 4) = mNeed μ v (w / 4) := need_eq h3 hn hv (by omega) h0
  obtain ⟨l1, l2, l3, l4, l5, _⟩ := live h3.1.2 hv h0
  have hxe := l5 (w / 4) (by omega)
  have hXn := (CIv h3.1.1 hv).2.2.2.1 (w / 4) (by omega)
  by_cases hs : cSol κ (κ (cVk v + 1) (w / 4)) = true
  · have hm0 : mNeed μ v (w / 4) = false := by rw [← hne]; unfold cNeed; rw [hs]; rfl
    have ec : cPerf κ (cVk v) w x = up κ 107 (tn (κ (cVk v + 1) (w / 4)) * 4 + w % 4) x := by unfold cPerf; rw [if_pos hs]
    have em : mPerf μ v w x = up μ 8 (4 * tn (μ 6 (40 * v + w / 4)) + w % 4) x := by unfold mPerf mPf1; rw [if_neg (by rw [hm0]; decide)]
    rw [ec, em]
    refine ⟨h3.same (fun c h1 h2 => up_cell (by omega)) (fun c h1 h2 => up_cell (by omega)), ?_, ⟨fun i hi => ?_, fun i hi => ?_⟩, ?_⟩
    · unfold RP
      rw [up_cell (show (106 : Nat) ≠ 107 by decide), up_cell (show (0 : Nat) ≠ 8 by decide)]
      exact hP
    · rw [hxe, show tn (μ 6 (40 * v + w / 4)) * 4 + w % 4 = 4 * tn (μ 6 (40 * v + w / 4)) + w % 4 by omega]
      by_cases hi2 : i = 4 * tn (μ 6 (40 * v + w / 4)) + w % 4
      · subst hi2; rw [up_self, up_self]
      · rw [up_ix hi2, up_ix hi2]; exact hW.1 i hi
    · rw [up_cell (show (112 : Nat) ≠ 107 by decide), up_cell (show (9 : Nat) ≠ 8 by decide)]; exact hW.2 i hi
    · unfold cPerR mPerR
      rw [if_pos hs, if_pos hm0]
  · have hm0 : mNeed μ v (w / 4) = true := by rw [← hne]; unfold cNeed; simpa using hs
    have hf0 : mFM μ (nE μ) ≠ 0 := by rw [hP.nEe]; exact hf hm0
    have hEk := mTkE_ok (hP.mJ hX) hf0
    have hEn : mTkE μ < n := by rw [hP.nEe] at hEk; exact hEk.1
    have hT : cTkE κ = mTkE μ := hP.tk h3
    have ec : cPerf κ (cVk v) w x = cPm2 κ (cVk v) w x := by unfold cPerf; rw [if_neg hs]
    have em : mPf1 μ v (w / 4) = mTake μ v (w / 4) := by unfold mPf1; rw [if_pos hm0]
    have hA := R3_take (x := x) h3 hP hv h0 hz hz40 hw hEn
    have hFM : cFM (cPm1 κ (cVk v) w x) (nC κ) = mFM (mTk3 μ v (w / 4) (mTkE μ) (nE μ)) (nE μ) := by rw [hP.nCe, hP.nEe]; have := fm_eq hA hn; rw [hP.nEe] at this; exact this
    have h62 : cPm1 κ (cVk v) w x 106 2 = μ 0 13 := by rw [cPm1_106 hk (by decide) (by decide)]; exact hP.2.2.2.2.2.1
    have h63 : cPm1 κ (cVk v) w x 106 3 = μ 0 14 := by rw [cPm1_106 hk (by decide) (by decide)]; exact hP.2.2.2.2.2.2.1
    have m14 : mTake μ v (w / 4) 0 14 = μ 0 14 + (if nI (mFM (mTk3 μ v (w / 4) (mTkE μ) (nE μ)) (nE μ)) = μ 0 13 then 1 else 0) := by unfold mTake; exact up_self
    have c6 : ∀ i, i ≠ 3 → cPm2 κ (cVk v) w x 106 i = cPm1 κ (cVk v) w x 106 i := fun i hi => by
      unfold cPm2; split
      · exact up_ix hi
      · rfl
    have co : ∀ c, c ≠ 106 → cPm2 κ (cVk v) w x c = cPm1 κ (cVk v) w x c := fun c hc => by
      unfold cPm2; split
      · exact up_cell hc
      · rfl
    have mp0 : ∀ i, mPerf μ v w x 0 i = mTake μ v (w / 4) 0 i := fun i => by unfold mPerf; rw [up_cell (by decide), em]
    have mpc : ∀ c, 1 ≤ c → c ≤ 7 → mPerf μ v w x c = mTk3 μ v (w / 4) (mTkE μ) (nE μ) c := fun c h1 h2 => by
      unfold mPerf; rw [up_cell (by omega), em]; unfold mTake; rw [up_cell (by omega)]
    refine ⟨?_, ?_, ⟨fun i hi => ?_, fun i hi => ?_⟩, ?_⟩
    · rw [ec]
      exact hA.same (fun c h1 h2 => co c (by omega)) mpc
    · obtain ⟨p1, p2, p3, p4, p5, p6, p7, p8⟩ := hP
      rw [ec]
      refine ⟨?_, ?_, p3, p4, ⟨nx n (mTkE μ), by unfold nx; split <;> omega, ?_, ?_⟩, ?_, ?_, ?_⟩
      · rw [c6 0 (by decide), cPm1_106 hk (by decide) (by decide)]; exact p1
      · rw [mp0, mTake_0 _ _ _ _ (by decide) (by decide) (by decide)]; exact p2
      · rw [cPm2_cu hk, hT, RP.nCe ⟨p1, p2, p3, p4, p5, p6, p7, p8⟩]
      · rw [mp0, mTake_12, RP.nEe ⟨p1, p2, p3, p4, p5, p6, p7, p8⟩]
      · rw [c6 2 (by decide), h62, mp0, mTake_0 _ _ _ _ (by decide) (by decide) (by decide)]
      · rw [mp0, m14]
        unfold cPm2
        rw [hFM, h62, h63]
        split
        · exact up_self
        · rw [h63]; simp
      · rw [c6 4 (by decide), cPm1_4 hk, mp0, mTake_15, p8]
    · have hcw := cw_eq (k := cVk v) hv (show w / 4 < 40 by omega) (show mTkE μ < 96 by omega) hk hxe l1 (hXn.mono hn) hW (nC κ) 4 (Nat.le_refl _)
      rw [ec, co 107 (by decide), cPm1_7 hk, hT]
      unfold mPerf cPm0
      rw [em, mTake_6, if_pos rfl, tn_nI (by omega), show mTkE μ * 4 + w % 4 = 4 * mTkE μ + w % 4 by omega]
      by_cases hi2 : i = 4 * mTkE μ + w % 4
      · subst hi2; rw [up_self, up_self]
      · rw [up_ix hi2, up_ix hi2, mTake_8]; exact hcw i hi
    · rw [ec, co 112 (by decide)]
      unfold cPm1 mPerf
      rw [cSet_o (by decide) (by omega) (by omega), cPm0_o (by decide) (by decide), up_cell (by decide), em, mTake_oth _ _ _ _ (by decide) (by decide) (by decide)]
      exact hW.2 i hi
    · unfold cPerR mPerR
      rw [if_neg hs, hxe, if_neg (show ¬ mNeed μ v (w / 4) = false by rw [hm0]; decide)]
