/-! congruence: what is asked of the cells 1 and 6 alone -/
theorem mG_cg {μ ν : KH} (h6 : μ 6 = ν 6) : mG μ = mG ν := by
  funext s v e p; unfold mG; rw [h6]
theorem mF_cg {μ ν : KH} (h1 : μ 1 = ν 1) (h6 : μ 6 = ν 6) : mF μ = mF ν := by
  funext s e v; unfold mF; rw [h1, mG_cg h6]
theorem mUse_cg {μ ν : KH} (h1 : μ 1 = ν 1) (h6 : μ 6 = ν 6) : mUse μ = mUse ν := by
  funext s e; unfold mUse; rw [mF_cg h1 h6]
theorem mFree_cg {μ ν : KH} (h1 : μ 1 = ν 1) (h6 : μ 6 = ν 6) : mFree μ = mFree ν := by
  funext e; unfold mFree; rw [mUse_cg h1 h6]
theorem mSole_cg {μ ν : KH} (h1 : μ 1 = ν 1) (h6 : μ 6 = ν 6) : mSole μ = mSole ν := by
  funext e; unfold mSole; rw [mUse_cg h1 h6]
theorem mFr1_cg {μ ν : KH} (h1 : μ 1 = ν 1) (h6 : μ 6 = ν 6) : mFr1 μ = mFr1 ν := by
  funext e; unfold mFr1; rw [mFree_cg h1 h6]
theorem mFM_cg {μ ν : KH} (h1 : μ 1 = ν 1) (h6 : μ 6 = ν 6) : mFM μ = mFM ν := by
  funext n; unfold mFM; rw [mFr1_cg h1 h6]
theorem mNeed_cg {μ ν : KH} (h1 : μ 1 = ν 1) (h6 : μ 6 = ν 6) : mNeed μ = mNeed ν := by
  funext v p; unfold mNeed; rw [h6, mSole_cg h1 h6]
/-- the queue's rows, moved up -/
theorem iterSh_at (k : Nat) (m : KH) (c : Nat) (hc : c = 10 ∨ c = 11 ∨ c = 12) (i : Nat) : ∀ j, iterK (mSh k) j m c i = if k ≤ i ∧ i < k + j then m c (i + 1) else m c i
  | 0 => by rw [if_neg (by omega)]; rfl
  | j + 1 => by
    show mSh k j (iterK (mSh k) j m) c i = _
    have h1 := iterSh_at k m c hc i j
    have h2 := iterSh_at k m c hc (k + j + 1) j
    rw [if_neg (by omega)] at h2
    by_cases hi : i = k + j
    · subst hi
      rw [if_pos (by omega)]
      rcases hc with rfl | rfl | rfl <;> simp [mSh, up, h2]
    · have h3 : mSh k j (iterK (mSh k) j m) c i = iterK (mSh k) j m c i := by
        rcases hc with rfl | rfl | rfl <;> simp [mSh, up, hi]
      rw [h3, h1]
      by_cases hk : k ≤ i ∧ i < k + j
      · rw [if_pos hk, if_pos (by omega)]
      · rw [if_neg hk, if_neg (by omega)]
theorem iterSh_oth (k : Nat) (m : KH) (c : Nat) (h1 : c ≠ 10) (h2 : c ≠ 11) (h3 : c ≠ 12) : ∀ j, iterK (mSh k) j m c = m c
  | 0 => rfl
  | j + 1 => by
    show mSh k j (iterK (mSh k) j m) c = _
    rw [← iterSh_oth k m c h1 h2 h3 j]
    unfold mSh
    rw [up_cell h3, up_cell h2, up_cell h1]
theorem mUnq_q (μ : KH) (n k c : Nat) (hc : c = 10 ∨ c = 11 ∨ c = 12) (i : Nat) (hk : k ≤ n) : mUnq μ n k c i = if k ≤ i ∧ i < n then μ c (i + 1) else μ c i := by
  unfold mUnq
  have h0 : ∀ j, up μ 0 23 (nI n) c j = μ c j := fun j => by rcases hc with rfl | rfl | rfl <;> simp [up]
  rw [iterSh_at k _ c hc i (n - k), h0, h0]
  by_cases h : k ≤ i ∧ i < n
  · rw [if_pos h, if_pos (by omega)]
  · rw [if_neg h, if_neg (by omega)]
theorem mUnq_o (μ : KH) (n k c : Nat) (h0 : c ≠ 0) (h1 : c ≠ 10) (h2 : c ≠ 11) (h3 : c ≠ 12) : mUnq μ n k c = μ c := by
  unfold mUnq
  rw [iterSh_oth k _ c h1 h2 h3, up_cell h0]
theorem mUnq_0 (μ : KH) (n k i : Nat) : mUnq μ n k 0 i = if i = 23 then nI n else μ 0 i := by
  unfold mUnq
  rw [mSh_0]
  by_cases h : i = 23
  · subst h; rw [if_pos rfl]; exact up_self
  · rw [if_neg h]; exact up_ix h
/-! what a write that is done changes -/
theorem mTake_oth (μ : KH) (v p c : Nat) (h0 : c ≠ 0) (h6 : c ≠ 6) (h8 : c ≠ 8) : mTake μ v p c = μ c := by
  unfold mTake mTk3
  rw [up_cell h0, up_cell h0, up_cell h0, up_cell h6]
  funext i
  exact mCw_6 μ v p _ h8 i 4
theorem mTake_6 (μ : KH) (v p i : Nat) : mTake μ v p 6 i = if i = 40 * v + p then nI (mTkE μ) else μ 6 i := by
  unfold mTake mTk3
  rw [up_cell (by decide), up_cell (by decide), up_cell (by decide)]
  by_cases h : i = 40 * v + p
  · subst h; rw [if_pos rfl]; exact up_self
  · rw [if_neg h, up_ix h]; exact mCw_6 μ v p _ (by decide) i 4
theorem mTake_0 (μ : KH) (v p i : Nat) (h1 : i ≠ 12) (h2 : i ≠ 14) (h3 : i ≠ 15) : mTake μ v p 0 i = μ 0 i := by
  unfold mTake mTk3
  rw [up_ix h2, up_ix h3, up_ix h1, up_cell (by decide)]
  exact mCw_6 μ v p _ (by decide) i 4
theorem mTake_12 (μ : KH) (v p : Nat) : mTake μ v p 0 12 = nI (nx (nE μ) (mTkE μ)) := by
  unfold mTake mTk3
  rw [up_ix (by decide), up_ix (by decide), up_self]
theorem mPerf_oth (μ : KH) (v w c : Nat) (x : Int32) (h0 : c ≠ 0) (h6 : c ≠ 6) (h8 : c ≠ 8) : mPerf μ v w x c = μ c := by
  unfold mPerf mPf1
  rw [up_cell h8]
  split
  · exact mTake_oth μ v _ c h0 h6 h8
  · rfl
theorem mPerf_6 (μ : KH) (v w i : Nat) (x : Int32) : mPerf μ v w x 6 i = if mNeed μ v (w / 4) = true ∧ i = 40 * v + w / 4 then nI (mTkE μ) else μ 6 i := by
  unfold mPerf mPf1
  rw [up_cell (by decide)]
  by_cases h : mNeed μ v (w / 4) = true
  · rw [if_pos h, mTake_6]
    by_cases hi : i = 40 * v + w / 4
    · rw [if_pos hi, if_pos ⟨h, hi⟩]
    · rw [if_neg hi, if_neg (fun q => hi q.2)]
  · rw [if_neg h, if_neg (fun q => h q.1)]
theorem mPerf_0 (μ : KH) (v w i : Nat) (x : Int32) (h1 : i ≠ 12) (h2 : i ≠ 14) (h3 : i ≠ 15) : mPerf μ v w x 0 i = μ 0 i := by
  unfold mPerf mPf1
  rw [up_cell (by decide)]
  split
  · exact mTake_0 μ v _ i h1 h2 h3
  · rfl
theorem mPerf_12 (μ : KH) (v w : Nat) (x : Int32) : mPerf μ v w x 0 12 = if mNeed μ v (w / 4) = true then nI (nx (nE μ) (mTkE μ)) else μ 0 12 := by
  unfold mPerf mPf1
  rw [up_cell (by decide)]
  split
  · exact mTake_12 μ v _
  · rfl
theorem mJ_perf {μ : KH} {v w : Nat} {x : Int32} (hJ : mJ μ) (hf : mNeed μ v (w / 4) = true → mFM μ (nE μ) ≠ 0) : mJ (mPerf μ v w x) := by
  obtain ⟨h1, h2, h3, h4⟩ := id hJ
  have h9 : mPerf μ v w x 0 9 = μ 0 9 := mPerf_0 μ v w 9 x (by decide) (by decide) (by decide)
  have hE : nE (mPerf μ v w x) = nE μ := by unfold nE; rw [h9]
  have hn : nE μ < 97 := h1.2
  refine ⟨by rw [h9]; exact h1, by rw [hE]; exact h2, ?_, fun j => ?_⟩
  · rw [hE, mPerf_12]
    split
    · rename_i hh
      have h5 := (mTkE_ok hJ (hf hh)).1
      refine isN_nI ?_ (by omega)
      unfold nx; split <;> omega
    · exact h3
  · rw [mPerf_6]
    split
    · rename_i hh
      have h5 := (mTkE_ok hJ (hf hh.1)).1
      exact Or.inr ⟨mTkE μ, by omega, rfl⟩
    · exact h4 j
theorem mJ_up0 {μ : KH} {i : Nat} {x : Int32} (h9 : i ≠ 9) (h12 : i ≠ 12) (hJ : mJ μ) : mJ (up μ 0 i x) := by
  obtain ⟨h1, h2, h3, h4⟩ := hJ
  have e9 : up μ 0 i x 0 9 = μ 0 9 := up_ix (Ne.symm h9)
  have e12 : up μ 0 i x 0 12 = μ 0 12 := up_ix (Ne.symm h12)
  refine ⟨by rw [e9]; exact h1, by unfold nE; rw [e9]; exact h2, by unfold nE; rw [e12, e9]; exact h3, fun j => by rw [up_cell (by decide)]; exact h4 j⟩
theorem mJ_unq {μ : KH} {n k : Nat} (hJ : mJ μ) : mJ (mUnq μ n k) := by
  obtain ⟨h1, h2, h3, h4⟩ := hJ
  have e9 : mUnq μ n k 0 9 = μ 0 9 := by rw [mUnq_0, if_neg (by decide)]
  have e12 : mUnq μ n k 0 12 = μ 0 12 := by rw [mUnq_0, if_neg (by decide)]
  refine ⟨by rw [e9]; exact h1, by unfold nE; rw [e9]; exact h2, by unfold nE; rw [e12, e9]; exact h3, fun j => by rw [mUnq_o μ n k 6 (by decide) (by decide) (by decide) (by decide)]; exact h4 j⟩
/-- what those that wait are served by -/
def mD (x : KH) (q : Nat) : Prop := mJ x ∧ x 0 23 = nI q ∧ q ≤ 8 ∧ ∀ k, k < q → isN (x 10 k) 16 ∧ isN (x 11 k) 160
theorem mD_unq {x : KH} {q k : Nat} (hk : k ≤ q) (h : mD x (q + 1)) : mD (mUnq x q k) q := by
  obtain ⟨h1, h2, h3, h4⟩ := h
  refine ⟨mJ_unq h1, by rw [mUnq_0, if_pos rfl], by omega, fun i hi => ?_⟩
  rw [mUnq_q x q k 10 (Or.inl rfl) i hk, mUnq_q x q k 11 (Or.inr (Or.inl rfl)) i hk]
  split
  · exact h4 (i + 1) (by omega)
  · exact h4 i (by omega)
theorem mD_up0 {x : KH} {q i : Nat} {z : Int32} (h9 : i ≠ 9) (h12 : i ≠ 12) (h23 : i ≠ 23) (h : mD x q) : mD (up x 0 i z) q := by
  obtain ⟨h1, h2, h3, h4⟩ := h
  exact ⟨mJ_up0 h9 h12 h1, by rw [up_ix (Ne.symm h23)]; exact h2, h3, fun k hk => by rw [up_cell (by decide), up_cell (by decide)]; exact h4 k hk⟩
theorem mD_perf {x : KH} {q v w : Nat} {z : Int32} (hf : mNeed x v (w / 4) = true → mFM x (nE x) ≠ 0) (h : mD x q) : mD (mPerf x v w z) q := by
  obtain ⟨h1, h2, h3, h4⟩ := h
  exact ⟨mJ_perf h1 hf, by rw [mPerf_0 x v w 23 z (by decide) (by decide) (by decide)]; exact h2, h3, fun k hk => by rw [mPerf_oth x v w 10 z (by decide) (by decide) (by decide), mPerf_oth x v w 11 z (by decide) (by decide) (by decide)]; exact h4 k hk⟩
theorem mD_Q {x : KH} {q : Nat} (h : mD x q) : nQ x = q := by
  have h3 := h.2.2.1
  unfold nQ; rw [h.2.1]; exact tn_nI (by omega)
theorem up_id (κ : KH) (k i : Nat) : up κ k i (κ k i) = κ := by
  funext a b
  unfold up
  split
  · rename_i h; rw [h.1, h.2]
  · rfl
theorem vNum_of {v : Int32} (h : vNum v = true) : ∃ j : Nat, j < 16 ∧ v = nI j := by
  simp only [vNum, Bool.and_eq_true, Bool.not_eq_true', decide_eq_false_iff_not] at h
  obtain ⟨k, hk, rfl⟩ := nI_of h.1
  refine ⟨k, ?_, rfl⟩
  exact Nat.not_le.mp fun q => h.2 (nI_le (a := 16) (b := k) q hk)
theorem vNum_or (v : Int32) : vNum v = false ∨ ∃ j : Nat, j < 16 ∧ v = nI j := by
  cases h : vNum v
  · exact Or.inl rfl
  · exact Or.inr (vNum_of h)
/-! a write, whole -/
def mEn (y : KH) (v w x : Int32) : KH × Int32 := if nQ y = 8 then (y, -1) else (mEnq y (nQ y) v w x, 3)
def mWm (y : KH) : KH := if y 0 16 = 0 ∧ mFM y (nE y) = 0 then up (up (up y 0 16 (if 0 < y 0 17 then 1 else 2)) 0 18 (y 0 17)) 0 19 0 else y
def mWr (y : KH) (v w : Nat) (x : Int32) : KH × Int32 :=
  if y 0 16 = 1 ∧ mWait y (nQ y) v (w / 4) = true then mEn y (nI v) (nI w) x
  else if mOver y v (w / 4) = true then (y, -1)
  else if mNeed y v (w / 4) = false then (mPerf y v w x, mPerR y v w)
  else if mWm y 0 16 = 1 then mEn (mWm y) (nI v) (nI w) x
  else if mFM y (nE y) = 0 then (mWm y, -1)
  else (mPerf (up y 0 16 0) v w x, mPerR (up y 0 16 0) v w)
theorem up2 (κ : KH) (k i : Nat) (x y : Int32) : up (up κ k i x) k i y = up κ k i y := by
  funext a b
  unfold up
  split <;> rfl
section MWR
variable {y : KH} {v w : Nat} {x : Int32}
theorem mWr_1 (h : y 0 16 = 1) (h2 : mWait y (nQ y) v (w / 4) = true) : mWr y v w x = mEn y (nI v) (nI w) x := if_pos ⟨h, h2⟩
theorem mWr_2 (h : ¬ (y 0 16 = 1 ∧ mWait y (nQ y) v (w / 4) = true)) (h2 : mOver y v (w / 4) = true) : mWr y v w x = (y, -1) := (if_neg h).trans (if_pos h2)
theorem mWr_3 (h : ¬ (y 0 16 = 1 ∧ mWait y (nQ y) v (w / 4) = true)) (h2 : mOver y v (w / 4) = false) (h3 : mNeed y v (w / 4) = false) : mWr y v w x = (mPerf y v w x, mPerR y v w) :=
  (if_neg h).trans ((if_neg (by rw [h2]; decide)).trans (if_pos h3))
theorem mWr_4 (h : ¬ (y 0 16 = 1 ∧ mWait y (nQ y) v (w / 4) = true)) (h2 : mOver y v (w / 4) = false) (h3 : mNeed y v (w / 4) = true) {z : KH} (hz : mWm y = z) (h4 : z 0 16 = 1) : mWr y v w x = mEn z (nI v) (nI w) x := by
  subst hz
  exact (if_neg h).trans ((if_neg (by rw [h2]; decide)).trans ((if_neg (by rw [h3]; decide)).trans (if_pos h4)))
theorem mWr_5 (h : ¬ (y 0 16 = 1 ∧ mWait y (nQ y) v (w / 4) = true)) (h2 : mOver y v (w / 4) = false) (h3 : mNeed y v (w / 4) = true) {z : KH} (hz : mWm y = z) (h4 : ¬ z 0 16 = 1) (h5 : mFM y (nE y) = 0) : mWr y v w x = (z, -1) := by
  subst hz
  exact (if_neg h).trans ((if_neg (by rw [h2]; decide)).trans ((if_neg (by rw [h3]; decide)).trans ((if_neg h4).trans (if_pos h5))))
theorem mWr_6 (h : ¬ (y 0 16 = 1 ∧ mWait y (nQ y) v (w / 4) = true)) (h2 : mOver y v (w / 4) = false) (h3 : mNeed y v (w / 4) = true) {z : KH} (hz : mWm y = z) (h4 : ¬ z 0 16 = 1) (h5 : ¬ mFM y (nE y) = 0) : mWr y v w x = (mPerf (up y 0 16 0) v w x, mPerR (up y 0 16 0) v w) := by
  subst hz
  exact (if_neg h).trans ((if_neg (by rw [h2]; decide)).trans ((if_neg (by rw [h3]; decide)).trans ((if_neg h4).trans (if_neg h5))))
theorem mWm_i (h : ¬ (y 0 16 = 0 ∧ mFM y (nE y) = 0)) : mWm y = y := if_neg h
theorem mWm_p (h : y 0 16 = 0) (h2 : mFM y (nE y) = 0) (h3 : 0 < y 0 17) : mWm y = up (up (up y 0 16 1) 0 18 (y 0 17)) 0 19 0 := by
  unfold mWm; rw [if_pos ⟨h, h2⟩, if_pos h3]
theorem mWm_n (h : y 0 16 = 0) (h2 : mFM y (nE y) = 0) (h3 : ¬ 0 < y 0 17) : mWm y = up (up (up y 0 16 2) 0 18 (y 0 17)) 0 19 0 := by
  unfold mWm; rw [if_pos ⟨h, h2⟩, if_neg h3]
theorem mEn_e {a b : Int32} (h : nQ y = 8) : mEn y a b x = (y, -1) := if_pos h
theorem mEn_l {a b : Int32} (h : ¬ nQ y = 8) : mEn y a b x = (mEnq y (nQ y) a b x, 3) := if_neg h
theorem ri {q : KH × Int32} {z : KH} {r : Int32} (h : q = (z, r)) : r = q.2 := by rw [h]
theorem rs {κ : KH} {o : Int64} {q : KH × Int32} {z : KH} {r : Int32} (h : q = (z, r)) : ((κ, z, o) : ST) = (κ, q.1, o) := by rw [h]
end MWR
def okW (μ : KH) (v w : Int32) : Prop := ∃ j k z : Nat, j < 16 ∧ v = nI j ∧ μ 1 j ≠ 0 ∧ z ≤ 40 ∧ μ 2 j = nI z ∧ w = nI k ∧ k < 4 * z
theorem okW_of {μ : KH} {j : Nat} {w : Int32} (hj : j < 16) (h1 : (!decide (μ 1 j = 0)) = true) (h2 : ¬ w < 0) (h3 : w < 4 * μ 2 j) (hsz : ∀ i, i < 16 → μ 1 i ≠ 0 → ∃ z : Nat, z ≤ 40 ∧ μ 2 i = nI z) : okW μ (nI j) w := by
  have h1' : μ 1 j ≠ 0 := by simpa using h1
  obtain ⟨z, hz, h4⟩ := hsz j hj h1'
  obtain ⟨k, hk, rfl⟩ := nI_of h2
  refine ⟨j, k, z, hj, rfl, h1', hz, h4, rfl, ?_⟩
  rw [h4, show (4 : Int32) * nI z = nI (4 * z) from cv_mul 4 z] at h3
  exact (nI_ltI hk (by omega)).mp h3
set_option maxHeartbeats 4000000 in
set_option maxRecDepth 100000 in
theorem c_X5_drain (l : Launch) (D : DD) (n0 : Nat) (κ μ : KH) (o : Int64) (hD : mD μ (nQ μ)) : HM l D n0 yX5_drain cX5_drain 6 none 6 140 [.ref (n0 + 113)] (κ, μ, o) none (κ, mDrain μ, o) := by
  refine HM.of (by decide) (by simp [Value.category]) (by simp) (Or.inl ⟨rfl, rfl⟩) ?_
  intro pp ee ss mm aa bb me cd Q C K hret
  show ZZ pp l ee (rmk 6 140) ss mm aa bb me cd D n0 127 6 0 0 Q _ 0 [some (.ref (n0 + 113)), none, none, none, none, none] []
  refine z_aload_n C rfl dX5_drain_0 ?_
  refine gf_X5_110 (v := μ 0 16) C rfl dX5_drain_1 ?_
  refine z_iconst (v := 1) C (by decide +kernel) dX5_drain_4 ?_
  refine z_icmp_ne (tgt := 12) C dX5_drain_5 (by decide) (fun h_5 => ?_) (fun h_5 => ?_)
  · skip
    refine z_iconst (v := 0) C (by decide +kernel) dX5_drain_12 ?_
    refine z_istore_n (ls' := [some (.ref (n0 + 113)), some (.int 0), none, none, none, none]) C (by decide) rfl dX5_drain_13 ?_
    refine z_iload_n C rfl dX5_drain_14 ?_
    refine z_if_eq (tgt := 117) C dX5_drain_15 (by decide) (fun h_15 => ?_) (fun h_15 => ?_)
    · skip
      refine z_aload_n C rfl dX5_drain_117 ?_
      refine z_iload_n C rfl dX5_drain_118 ?_
      refine z_if_eq (tgt := 126) C dX5_drain_119 (by decide) (fun h_119 => ?_) (fun h_119 => ?_)
      · skip
        refine z_aload_n C rfl dX5_drain_126 ?_
        refine gf_X5_110 (v := μ 0 16) C rfl dX5_drain_127 ?_
        refine pf_X5_110 (x := μ 0 16) C dX5_drain_130 ?_
        exact z_endV (hret _ _ dX5_drain_133) (st_m (by unfold mDrain; rw [if_neg h_5]))
      · exact absurd h_119 (by decide +kernel)
    · exact absurd h_15 (by decide +kernel)
  · skip
    refine z_iconst (v := 1) C (by decide +kernel) dX5_drain_8 ?_
    refine z_goto (tgt := 13) C dX5_drain_9 (by decide) ?_
    refine z_istore_n (ls' := [some (.ref (n0 + 113)), some (.int 1), none, none, none, none]) C (by decide) rfl dX5_drain_13 ?_
    have hl_14 : ∀ (k : Nat) (x : KH), mD x k → x 0 16 = 1 → mDr k x = mDrain μ → ZZ pp l ee (rmk 6 140) ss mm aa bb me cd D n0 127 6 0 0 Q (κ, x, o) 14 [some (.ref (n0 + 113)), some (.int 1), none, none, none, none] [] := by
      intro k
      induction k with
      | zero =>
        intro x hD hmd hX
        obtain ⟨hDJ, hDq, hD8, hDe⟩ := id hD
        have hE : x 0 9 = nI (nE x) := hDJ.1.1
        have hE9 : nE x < 97 := hDJ.1.2
        have hfm := mFM_le x (nE x)
        refine z_iload_n C rfl dX5_drain_14 ?_
        refine z_if_eq (tgt := 117) C dX5_drain_15 (by decide) (fun h_15 => ?_) (fun h_15 => ?_)
        · exact absurd h_15 (by decide +kernel)
        · skip
          refine z_aload_n C rfl dX5_drain_18 ?_
          refine gf_X5_107 (v := nI 0) C hDq dX5_drain_19 ?_
          refine z_if_le (tgt := 117) C dX5_drain_22 (by decide) (fun h_22 => ?_) (fun h_22 => ?_)
          · have g_22 := cv_le (a := 0) (b := 0) (by omega) (by omega) h_22
            refine z_aload_n C rfl dX5_drain_117 ?_
            refine z_iload_n C rfl dX5_drain_118 ?_
            refine z_if_eq (tgt := 126) C dX5_drain_119 (by decide) (fun h_119 => ?_) (fun h_119 => ?_)
            · exact absurd h_119 (by decide +kernel)
            · skip
              refine z_iconst (v := 0) C (by decide +kernel) dX5_drain_122 ?_
              refine z_goto (tgt := 130) C dX5_drain_123 (by decide) ?_
              refine pf_X5_110 (x := 0) C dX5_drain_130 ?_
              exact z_endV (hret _ _ dX5_drain_133) (st_m hX)
          · have g_22 := cv_nle (a := 0) (b := 0) (by omega) (by omega) h_22
            exact absurd g_22 (by omega)
      | succ k ih =>
        intro x hD hmd hX
        obtain ⟨hDJ, hDq, hD8, hDe⟩ := id hD
        have hE : x 0 9 = nI (nE x) := hDJ.1.1
        have hE9 : nE x < 97 := hDJ.1.2
        have hfm := mFM_le x (nE x)
        obtain ⟨⟨hv1, hv2⟩, ⟨hw1, hw2⟩⟩ := hDe 0 (by omega)
        refine z_iload_n C rfl dX5_drain_14 ?_
        refine z_if_eq (tgt := 117) C dX5_drain_15 (by decide) (fun h_15 => ?_) (fun h_15 => ?_)
        · exact absurd h_15 (by decide +kernel)
        · skip
          refine z_aload_n C rfl dX5_drain_18 ?_
          refine gf_X5_107 (v := nI (k + 1)) C hDq dX5_drain_19 ?_
          refine z_if_le (tgt := 117) C dX5_drain_22 (by decide) (fun h_22 => ?_) (fun h_22 => ?_)
          · have g_22 := cv_le (a := k + 1) (b := 0) (by omega) (by omega) h_22
            exact absurd g_22 (by omega)
          · have g_22 := cv_nle (a := k + 1) (b := 0) (by omega) (by omega) h_22
            refine z_aload_n C rfl dX5_drain_25 ?_
            refine gf_X5_42 C dX5_drain_26 ?_
            refine z_iconst (v := 0) C (by decide +kernel) dX5_drain_29 ?_
            refine al_123 (v := nI (tn (x 10 0))) C (0) rfl (by omega) hv1 dX5_drain_30 ?_
            refine z_istore_n (ls' := [some (.ref (n0 + 113)), some (.int 1), some (.int (nI (tn (x 10 0)))), none, none, none]) C (by decide) rfl dX5_drain_31 ?_
            refine z_aload_n C rfl dX5_drain_32 ?_
            refine gf_X5_45 C dX5_drain_33 ?_
            refine z_iconst (v := 0) C (by decide +kernel) dX5_drain_36 ?_
            refine al_124 (v := nI (tn (x 11 0))) C (0) rfl (by omega) hw1 dX5_drain_37 ?_
            refine z_istore_n (ls' := [some (.ref (n0 + 113)), some (.int 1), some (.int (nI (tn (x 10 0)))), some (.int (nI (tn (x 11 0)))), none, none]) C (by decide) rfl dX5_drain_38 ?_
            refine z_aload_n C rfl dX5_drain_39 ?_
            refine gf_X5_48 C dX5_drain_40 ?_
            refine z_iconst (v := 0) C (by decide +kernel) dX5_drain_43 ?_
            refine al_125 (v := x 12 0) C (0) rfl (by omega) rfl dX5_drain_44 ?_
            refine z_istore (ls' := [some (.ref (n0 + 113)), some (.int 1), some (.int (nI (tn (x 10 0)))), some (.int (nI (tn (x 11 0)))), some (.int (x 12 0)), none]) C (by decide) rfl dX5_drain_45 ?_
            refine z_aload_n C rfl dX5_drain_47 ?_
            refine z_iload_n C rfl dX5_drain_48 ?_
            refine z_iload_n C rfl dX5_drain_49 ?_
            refine z_iconst (v := 4) C (by decide +kernel) dX5_drain_50 ?_
            refine z_idiv (v := nI ((tn (x 11 0)) / 4)) C (by decide +kernel) (cv_div (by omega) (by decide) (by decide)) dX5_drain_51 ?_
            refine z_callV (As := [.int (nI (tn (x 10 0))), .int (nI ((tn (x 11 0)) / 4))]) (r := (some (.int (b2i (mOver x (tn (x 10 0)) (tn (x 11 0) / 4)))))) (σ1 := (κ, x, o)) (st := []) (st1 := [.int (b2i (mOver x (tn (x 10 0)) (tn (x 11 0) / 4)))]) C K ok_X5_113 (c_X5_isOver l D n0 κ x o (tn (x 10 0)) (tn (x 11 0) / 4) hv2 (by omega)) enc_M (by decide) rfl rfl ⟨by decide, by decide⟩ ⟨Nat.zero_le _, Nat.zero_le _⟩ (by simp [Value.category]) dX5_drain_52 rfl rfl ?_
            refine z_if_eq (tgt := 76) C dX5_drain_55 (by decide) (fun h_55 => ?_) (fun h_55 => ?_)
            · have g_55 := cv_b0 h_55
              refine z_aload_n C rfl dX5_drain_76 ?_
              refine z_iload_n C rfl dX5_drain_77 ?_
              refine z_iload_n C rfl dX5_drain_78 ?_
              refine z_iconst (v := 4) C (by decide +kernel) dX5_drain_79 ?_
              refine z_idiv (v := nI ((tn (x 11 0)) / 4)) C (by decide +kernel) (cv_div (by omega) (by decide) (by decide)) dX5_drain_80 ?_
              refine z_callV (As := [.int (nI (tn (x 10 0))), .int (nI ((tn (x 11 0)) / 4))]) (r := (some (.int (b2i (mNeed x (tn (x 10 0)) (tn (x 11 0) / 4)))))) (σ1 := (κ, x, o)) (st := []) (st1 := [.int (b2i (mNeed x (tn (x 10 0)) (tn (x 11 0) / 4)))]) C K ok_X5_99 (c_X5_needs l D n0 κ x o (tn (x 10 0)) (tn (x 11 0) / 4) hv2 (by omega)) enc_M (by decide) rfl rfl ⟨by decide, by decide⟩ ⟨Nat.zero_le _, Nat.zero_le _⟩ (by simp [Value.category]) dX5_drain_81 rfl rfl ?_
              refine z_if_eq (tgt := 99) C dX5_drain_84 (by decide) (fun h_84 => ?_) (fun h_84 => ?_)
              · have g_84 := cv_b0 h_84
                refine z_aload_n C rfl dX5_drain_99 ?_
                refine z_iload_n C rfl dX5_drain_100 ?_
                refine z_iload_n C rfl dX5_drain_101 ?_
                refine z_iload C rfl dX5_drain_102 ?_
                have hfx : mNeed x (tn (x 10 0)) (tn (x 11 0) / 4) = true → mFM x (nE x) ≠ 0 := fun q => absurd q (by rw [g_84]; decide)
                refine z_callV (As := [.int (nI (tn (x 10 0))), .int (nI (tn (x 11 0))), .int (x 12 0)]) (r := (some (.int (mPerR x (tn (x 10 0)) (tn (x 11 0)))))) (σ1 := (κ, mPerf x (tn (x 10 0)) (tn (x 11 0)) (x 12 0), o)) (st := []) (st1 := [.int (mPerR x (tn (x 10 0)) (tn (x 11 0)))]) C K ok_X5_123 (c_X5_perform l D n0 κ x o (tn (x 10 0)) (tn (x 11 0)) (x 12 0) hv2 hw2 hDJ hfx) enc_M (by decide) rfl rfl ⟨by decide, by decide⟩ ⟨Nat.zero_le _, Nat.zero_le _⟩ (by simp [Value.category]) dX5_drain_104 rfl rfl ?_
                refine z_istore (ls' := [some (.ref (n0 + 113)), some (.int 1), some (.int (nI (tn (x 10 0)))), some (.int (nI (tn (x 11 0)))), some (.int (x 12 0)), some (.int (mPerR x (tn (x 10 0)) (tn (x 11 0))))]) C (by decide) rfl dX5_drain_107 ?_
                refine z_aload_n C rfl dX5_drain_109 ?_
                refine z_iconst (v := 0) C (by decide +kernel) dX5_drain_110 ?_
                refine z_callV (As := [.int 0]) (r := none) (σ1 := (κ, mUnq (mPerf x (tn (x 10 0)) (tn (x 11 0)) (x 12 0)) k 0, o)) (st := []) (st1 := []) C K ok_X5_119 (c_X5_unqueue l D n0 κ (mPerf x (tn (x 10 0)) (tn (x 11 0)) (x 12 0)) o k 0 (mD_perf hfx hD).2.1 (by omega) (by omega)) enc_M (by decide) rfl rfl ⟨by decide, by decide⟩ ⟨Nat.zero_le _, Nat.zero_le _⟩ (by simp [Value.category]) dX5_drain_111 rfl rfl ?_
                refine z_goto (tgt := 14) C dX5_drain_114 (by decide) ?_
                exact z_cast (ih _ (mD_unq (Nat.zero_le _) (mD_perf (z := x 12 0) hfx hD)) (by rw [mUnq_0, if_neg (by decide), mPerf_0 _ _ _ _ _ (by decide) (by decide) (by decide)]; exact hmd) (by rw [← hX, mDr, if_neg (by rw [g_55]; decide), if_neg (fun q => absurd q.1 (by rw [g_84]; decide))])) rfl ⟨rfl, rfl, trivial⟩ rfl
              · have g_84 := cv_b1 h_84
                refine z_aload_n C rfl dX5_drain_87 ?_
                refine z_callV (As := []) (r := (some (.int (nI (mFM x (nE x)))))) (σ1 := (κ, x, o)) (st := []) (st1 := [.int (nI (mFM x (nE x)))]) C K ok_X5_92 (c_X5_freeMany l D n0 κ x o (nE x) hE (by omega)) enc_M (by decide) rfl rfl ⟨by decide, by decide⟩ ⟨Nat.zero_le _, Nat.zero_le _⟩ (by simp [Value.category]) dX5_drain_88 rfl rfl ?_
                refine z_if_ne (tgt := 99) C dX5_drain_91 (by decide) (fun h_91 => ?_) (fun h_91 => ?_)
                · have g_91 := cv_ne (a := mFM x (nE x)) (b := 0) h_91
                  refine z_aload_n C rfl dX5_drain_99 ?_
                  refine z_iload_n C rfl dX5_drain_100 ?_
                  refine z_iload_n C rfl dX5_drain_101 ?_
                  refine z_iload C rfl dX5_drain_102 ?_
                  have hfx : mNeed x (tn (x 10 0)) (tn (x 11 0) / 4) = true → mFM x (nE x) ≠ 0 := fun _ => g_91
                  refine z_callV (As := [.int (nI (tn (x 10 0))), .int (nI (tn (x 11 0))), .int (x 12 0)]) (r := (some (.int (mPerR x (tn (x 10 0)) (tn (x 11 0)))))) (σ1 := (κ, mPerf x (tn (x 10 0)) (tn (x 11 0)) (x 12 0), o)) (st := []) (st1 := [.int (mPerR x (tn (x 10 0)) (tn (x 11 0)))]) C K ok_X5_123 (c_X5_perform l D n0 κ x o (tn (x 10 0)) (tn (x 11 0)) (x 12 0) hv2 hw2 hDJ hfx) enc_M (by decide) rfl rfl ⟨by decide, by decide⟩ ⟨Nat.zero_le _, Nat.zero_le _⟩ (by simp [Value.category]) dX5_drain_104 rfl rfl ?_
                  refine z_istore (ls' := [some (.ref (n0 + 113)), some (.int 1), some (.int (nI (tn (x 10 0)))), some (.int (nI (tn (x 11 0)))), some (.int (x 12 0)), some (.int (mPerR x (tn (x 10 0)) (tn (x 11 0))))]) C (by decide) rfl dX5_drain_107 ?_
                  refine z_aload_n C rfl dX5_drain_109 ?_
                  refine z_iconst (v := 0) C (by decide +kernel) dX5_drain_110 ?_
                  refine z_callV (As := [.int 0]) (r := none) (σ1 := (κ, mUnq (mPerf x (tn (x 10 0)) (tn (x 11 0)) (x 12 0)) k 0, o)) (st := []) (st1 := []) C K ok_X5_119 (c_X5_unqueue l D n0 κ (mPerf x (tn (x 10 0)) (tn (x 11 0)) (x 12 0)) o k 0 (mD_perf hfx hD).2.1 (by omega) (by omega)) enc_M (by decide) rfl rfl ⟨by decide, by decide⟩ ⟨Nat.zero_le _, Nat.zero_le _⟩ (by simp [Value.category]) dX5_drain_111 rfl rfl ?_
                  refine z_goto (tgt := 14) C dX5_drain_114 (by decide) ?_
                  exact z_cast (ih _ (mD_unq (Nat.zero_le _) (mD_perf (z := x 12 0) hfx hD)) (by rw [mUnq_0, if_neg (by decide), mPerf_0 _ _ _ _ _ (by decide) (by decide) (by decide)]; exact hmd) (by rw [← hX, mDr, if_neg (by rw [g_55]; decide), if_neg (fun q => g_91 q.2)])) rfl ⟨rfl, rfl, trivial⟩ rfl
                · have g_91 := cv_eq (a := mFM x (nE x)) (b := 0) (by omega) (by omega) h_91
                  refine z_iconst (v := 0) C (by decide +kernel) dX5_drain_94 ?_
                  refine z_istore_n (ls' := [some (.ref (n0 + 113)), some (.int 0), some (.int (nI (tn (x 10 0)))), some (.int (nI (tn (x 11 0)))), some (.int (x 12 0)), none]) C (by decide) rfl dX5_drain_95 ?_
                  refine z_goto (tgt := 114) C dX5_drain_96 (by decide) ?_
                  refine z_goto (tgt := 14) C dX5_drain_114 (by decide) ?_
                  refine z_iload_n C rfl dX5_drain_14 ?_
                  refine z_if_eq (tgt := 117) C dX5_drain_15 (by decide) (fun h_15 => ?_) (fun h_15 => ?_)
                  · skip
                    refine z_aload_n C rfl dX5_drain_117 ?_
                    refine z_iload_n C rfl dX5_drain_118 ?_
                    refine z_if_eq (tgt := 126) C dX5_drain_119 (by decide) (fun h_119 => ?_) (fun h_119 => ?_)
                    · skip
                      refine z_aload_n C rfl dX5_drain_126 ?_
                      refine gf_X5_110 (v := x 0 16) C rfl dX5_drain_127 ?_
                      refine pf_X5_110 (x := x 0 16) C dX5_drain_130 ?_
                      exact z_endV (hret _ _ dX5_drain_133) (st_m (by rw [← hX, mDr, if_neg (by rw [g_55]; decide), if_pos ⟨g_84, g_91⟩]))
                    · exact absurd h_119 (by decide +kernel)
                  · exact absurd h_15 (by decide +kernel)
            · have g_55 := cv_b1 h_55
              refine z_aload_n C rfl dX5_drain_58 ?_
              refine z_dup C rfl dX5_drain_59 ?_
              refine gf_X5_116 (v := x 0 21) C rfl dX5_drain_60 ?_
              refine z_iconst (v := 1) C (by decide +kernel) dX5_drain_63 ?_
              refine z_iadd (v := (x 0 21) + 1) C rfl dX5_drain_64 ?_
              refine pf_X5_116 (x := (x 0 21) + 1) C dX5_drain_65 ?_
              refine z_aload_n C rfl dX5_drain_68 ?_
              refine z_iconst (v := 0) C (by decide +kernel) dX5_drain_69 ?_
              refine z_callV (As := [.int 0]) (r := none) (σ1 := (κ, mUnq (up x 0 21 ((x 0 21) + 1)) k 0, o)) (st := []) (st1 := []) C K ok_X5_119 (c_X5_unqueue l D n0 κ (up x 0 21 ((x 0 21) + 1)) o k 0 (mD_up0 (by decide) (by decide) (by decide) hD).2.1 (by omega) (by omega)) enc_M (by decide) rfl rfl ⟨by decide, by decide⟩ ⟨Nat.zero_le _, Nat.zero_le _⟩ (by simp [Value.category]) dX5_drain_70 rfl rfl ?_
              refine z_goto (tgt := 114) C dX5_drain_73 (by decide) ?_
              refine z_goto (tgt := 14) C dX5_drain_114 (by decide) ?_
              exact z_cast (ih _ (mD_unq (Nat.zero_le _) (mD_up0 (i := 21) (z := x 0 21 + 1) (by decide) (by decide) (by decide) hD)) (by rw [mUnq_0, if_neg (by decide), up_ix (by decide)]; exact hmd) (by rw [← hX, mDr, if_pos g_55])) rfl ⟨rfl, rfl, trivial⟩ rfl
    exact z_cast (hl_14 (nQ μ) μ hD h_5 (by unfold mDrain; rw [if_pos h_5])) rfl ⟨rfl, rfl, trivial⟩ rfl
set_option maxHeartbeats 4000000 in
set_option maxRecDepth 100000 in
theorem c_X5_thrown (l : Launch) (D : DD) (n0 : Nat) (κ μ : KH) (o : Int64)  : HM l D n0 yX5_thrown cX5_thrown 1 (some .int) 0 0 [.ref (n0 + 113)] (κ, μ, o) (some (.int (μ 0 0))) (κ, μ, o) := by
  refine HM.of (by decide) (by simp [Value.category]) (by simp) (Or.inr (Or.inl ⟨_, .int, rfl, rfl, rfl⟩)) ?_
  intro pp ee ss mm aa bb me cd Q C K hret
  show ZZ pp l ee (rmk 0 0) ss mm aa bb me cd D n0 127 1 0 0 Q _ 0 [some (.ref (n0 + 113))] []
  refine z_aload_n C rfl dX5_thrown_0 ?_
  refine gf_X5_51 (v := μ 0 0) C rfl dX5_thrown_1 ?_
  exact z_endI (hret _ _ dX5_thrown_4) rfl rfl
set_option maxHeartbeats 4000000 in
set_option maxRecDepth 100000 in
theorem c_X5_write_bad (l : Launch) (D : DD) (n0 : Nat) (κ μ : KH) (o : Int64) (v w x : Int32) (hb : ¬ okW μ v w) (hsz : ∀ i, i < 16 → μ 1 i ≠ 0 → ∃ z : Nat, z ≤ 40 ∧ μ 2 i = nI z) : HM l D n0 yX5_write cX5_write 6 (some .int) 2 41 [.ref (n0 + 113), .int v, .int w, .int x] (κ, μ, o) (some (.int 0)) (κ, up μ 0 0 1, o) := by
  refine HM.of (by decide) (by simp [Value.category]) (by simp) (Or.inr (Or.inl ⟨_, .int, rfl, rfl, rfl⟩)) ?_
  intro pp ee ss mm aa bb me cd Q C K hret
  show ZZ pp l ee (rmk 2 41) ss mm aa bb me cd D n0 127 6 0 0 Q _ 0 [some (.ref (n0 + 113)), some (.int v), some (.int w), some (.int x), none, none] []
  refine z_aload_n C rfl dX5_write_0 ?_
  refine z_aload_n C rfl dX5_write_1 ?_
  refine z_iload_n C rfl dX5_write_2 ?_
  rcases vNum_or v with hv | ⟨j, hj, rfl⟩
  · skip
    refine z_callV (As := [.int v]) (r := (some (.int 0))) (σ1 := (κ, μ, o)) (st := [.ref (n0 + 113)]) (st1 := [.int 0, .ref (n0 + 113)]) C K ok_X5_126 (c_X5_isVolume_n l D n0 κ μ o v hv) enc_M (by decide) rfl rfl ⟨by decide, by decide⟩ ⟨Nat.zero_le _, Nat.zero_le _⟩ (by simp [Value.category]) dX5_write_3 rfl rfl ?_
    refine z_if_eq (tgt := 25) C dX5_write_6 (by decide) (fun h_6 => ?_) (fun h_6 => ?_)
    · skip
      refine z_iconst (v := 1) C (by decide +kernel) dX5_write_25 ?_
      refine z_goto (tgt := 30) C dX5_write_26 (by decide) ?_
      refine pf_X5_51 (x := 1) C dX5_write_30 ?_
      refine z_aload_n C rfl dX5_write_33 ?_
      refine gf_X5_51 (v := 1) C rfl dX5_write_34 ?_
      refine z_if_le (tgt := 42) C dX5_write_37 (by decide) (fun h_37 => ?_) (fun h_37 => ?_)
      · exact absurd h_37 (by decide +kernel)
      · skip
        refine z_iconst (v := 0) C (by decide +kernel) dX5_write_40 ?_
        exact z_endI (hret _ _ dX5_write_41) rfl rfl
    · exact absurd h_6 (by decide +kernel)
  · skip
    refine z_callV (As := [.int (nI j)]) (r := (some (.int (b2i (!decide (μ 1 j = 0)))))) (σ1 := (κ, μ, o)) (st := [.ref (n0 + 113)]) (st1 := [.int (b2i (!decide (μ 1 j = 0))), .ref (n0 + 113)]) C K ok_X5_126 (c_X5_isVolume l D n0 κ μ o j (by omega)) enc_M (by decide) rfl rfl ⟨by decide, by decide⟩ ⟨Nat.zero_le _, Nat.zero_le _⟩ (by simp [Value.category]) dX5_write_3 rfl rfl ?_
    refine z_if_eq (tgt := 25) C dX5_write_6 (by decide) (fun h_6 => ?_) (fun h_6 => ?_)
    · have g_6 := cv_b0 h_6
      refine z_iconst (v := 1) C (by decide +kernel) dX5_write_25 ?_
      refine z_goto (tgt := 30) C dX5_write_26 (by decide) ?_
      refine pf_X5_51 (x := 1) C dX5_write_30 ?_
      refine z_aload_n C rfl dX5_write_33 ?_
      refine gf_X5_51 (v := 1) C rfl dX5_write_34 ?_
      refine z_if_le (tgt := 42) C dX5_write_37 (by decide) (fun h_37 => ?_) (fun h_37 => ?_)
      · exact absurd h_37 (by decide +kernel)
      · skip
        refine z_iconst (v := 0) C (by decide +kernel) dX5_write_40 ?_
        exact z_endI (hret _ _ dX5_write_41) rfl rfl
    · have g_6 := cv_b1 h_6
      refine z_iload_n C rfl dX5_write_9 ?_
      refine z_if_lt (tgt := 25) C dX5_write_10 (by decide) (fun h_10 => ?_) (fun h_10 => ?_)
      · skip
        refine z_iconst (v := 1) C (by decide +kernel) dX5_write_25 ?_
        refine z_goto (tgt := 30) C dX5_write_26 (by decide) ?_
        refine pf_X5_51 (x := 1) C dX5_write_30 ?_
        refine z_aload_n C rfl dX5_write_33 ?_
        refine gf_X5_51 (v := 1) C rfl dX5_write_34 ?_
        refine z_if_le (tgt := 42) C dX5_write_37 (by decide) (fun h_37 => ?_) (fun h_37 => ?_)
        · exact absurd h_37 (by decide +kernel)
        · skip
          refine z_iconst (v := 0) C (by decide +kernel) dX5_write_40 ?_
          exact z_endI (hret _ _ dX5_write_41) rfl rfl
      · skip
        refine z_iload_n C rfl dX5_write_13 ?_
        refine z_iconst (v := 4) C (by decide +kernel) dX5_write_14 ?_
        refine z_aload_n C rfl dX5_write_15 ?_
        refine gf_X5_13 C dX5_write_16 ?_
        refine z_iload_n C rfl dX5_write_19 ?_
        refine al_115 (v := μ 2 j) C (j) rfl (by omega) rfl dX5_write_20 ?_
        refine z_imul (v := 4 * (μ 2 j)) C rfl dX5_write_21 ?_
        refine z_icmp_lt (tgt := 29) C dX5_write_22 (by decide) (fun h_22 => ?_) (fun h_22 => ?_)
        · skip
          exact absurd (okW_of hj g_6 h_10 h_22 hsz) hb
        · skip
          refine z_iconst (v := 1) C (by decide +kernel) dX5_write_25 ?_
          refine z_goto (tgt := 30) C dX5_write_26 (by decide) ?_
          refine pf_X5_51 (x := 1) C dX5_write_30 ?_
          refine z_aload_n C rfl dX5_write_33 ?_
          refine gf_X5_51 (v := 1) C rfl dX5_write_34 ?_
          refine z_if_le (tgt := 42) C dX5_write_37 (by decide) (fun h_37 => ?_) (fun h_37 => ?_)
          · exact absurd h_37 (by decide +kernel)
          · skip
            refine z_iconst (v := 0) C (by decide +kernel) dX5_write_40 ?_
            exact z_endI (hret _ _ dX5_write_41) rfl rfl
set_option maxHeartbeats 4000000 in
set_option maxRecDepth 100000 in
theorem c_X5_read_bad (l : Launch) (D : DD) (n0 : Nat) (κ μ : KH) (o : Int64) (v w : Int32) (hb : ¬ okW μ v w) (hsz : ∀ i, i < 16 → μ 1 i ≠ 0 → ∃ z : Nat, z ≤ 40 ∧ μ 2 i = nI z) : HM l D n0 yX5_read cX5_read 3 (some .int) 2 41 [.ref (n0 + 113), .int v, .int w] (κ, μ, o) (some (.int 0)) (κ, up μ 0 0 1, o) := by
  refine HM.of (by decide) (by simp [Value.category]) (by simp) (Or.inr (Or.inl ⟨_, .int, rfl, rfl, rfl⟩)) ?_
  intro pp ee ss mm aa bb me cd Q C K hret
  show ZZ pp l ee (rmk 2 41) ss mm aa bb me cd D n0 127 3 0 0 Q _ 0 [some (.ref (n0 + 113)), some (.int v), some (.int w)] []
  refine z_aload_n C rfl dX5_read_0 ?_
  refine z_aload_n C rfl dX5_read_1 ?_
  refine z_iload_n C rfl dX5_read_2 ?_
  rcases vNum_or v with hv | ⟨j, hj, rfl⟩
  · skip
    refine z_callV (As := [.int v]) (r := (some (.int 0))) (σ1 := (κ, μ, o)) (st := [.ref (n0 + 113)]) (st1 := [.int 0, .ref (n0 + 113)]) C K ok_X5_126 (c_X5_isVolume_n l D n0 κ μ o v hv) enc_M (by decide) rfl rfl ⟨by decide, by decide⟩ ⟨Nat.zero_le _, Nat.zero_le _⟩ (by simp [Value.category]) dX5_read_3 rfl rfl ?_
    refine z_if_eq (tgt := 25) C dX5_read_6 (by decide) (fun h_6 => ?_) (fun h_6 => ?_)
    · skip
      refine z_iconst (v := 1) C (by decide +kernel) dX5_read_25 ?_
      refine z_goto (tgt := 30) C dX5_read_26 (by decide) ?_
      refine pf_X5_51 (x := 1) C dX5_read_30 ?_
      refine z_aload_n C rfl dX5_read_33 ?_
      refine gf_X5_51 (v := 1) C rfl dX5_read_34 ?_
      refine z_if_ne (tgt := 49) C dX5_read_37 (by decide) (fun h_37 => ?_) (fun h_37 => ?_)
      · skip
        refine z_iconst (v := 0) C (by decide +kernel) dX5_read_49 ?_
        exact z_endI (hret _ _ dX5_read_50) rfl rfl
      · exact absurd h_37 (by decide +kernel)
    · exact absurd h_6 (by decide +kernel)
  · skip
    refine z_callV (As := [.int (nI j)]) (r := (some (.int (b2i (!decide (μ 1 j = 0)))))) (σ1 := (κ, μ, o)) (st := [.ref (n0 + 113)]) (st1 := [.int (b2i (!decide (μ 1 j = 0))), .ref (n0 + 113)]) C K ok_X5_126 (c_X5_isVolume l D n0 κ μ o j (by omega)) enc_M (by decide) rfl rfl ⟨by decide, by decide⟩ ⟨Nat.zero_le _, Nat.zero_le _⟩ (by simp [Value.category]) dX5_read_3 rfl rfl ?_
    refine z_if_eq (tgt := 25) C dX5_read_6 (by decide) (fun h_6 => ?_) (fun h_6 => ?_)
    · have g_6 := cv_b0 h_6
      refine z_iconst (v := 1) C (by decide +kernel) dX5_read_25 ?_
      refine z_goto (tgt := 30) C dX5_read_26 (by decide) ?_
      refine pf_X5_51 (x := 1) C dX5_read_30 ?_
      refine z_aload_n C rfl dX5_read_33 ?_
      refine gf_X5_51 (v := 1) C rfl dX5_read_34 ?_
      refine z_if_ne (tgt := 49) C dX5_read_37 (by decide) (fun h_37 => ?_) (fun h_37 => ?_)
      · skip
        refine z_iconst (v := 0) C (by decide +kernel) dX5_read_49 ?_
        exact z_endI (hret _ _ dX5_read_50) rfl rfl
      · exact absurd h_37 (by decide +kernel)
    · have g_6 := cv_b1 h_6
      refine z_iload_n C rfl dX5_read_9 ?_
      refine z_if_lt (tgt := 25) C dX5_read_10 (by decide) (fun h_10 => ?_) (fun h_10 => ?_)
      · skip
        refine z_iconst (v := 1) C (by decide +kernel) dX5_read_25 ?_
        refine z_goto (tgt := 30) C dX5_read_26 (by decide) ?_
        refine pf_X5_51 (x := 1) C dX5_read_30 ?_
        refine z_aload_n C rfl dX5_read_33 ?_
        refine gf_X5_51 (v := 1) C rfl dX5_read_34 ?_
        refine z_if_ne (tgt := 49) C dX5_read_37 (by decide) (fun h_37 => ?_) (fun h_37 => ?_)
        · skip
          refine z_iconst (v := 0) C (by decide +kernel) dX5_read_49 ?_
          exact z_endI (hret _ _ dX5_read_50) rfl rfl
        · exact absurd h_37 (by decide +kernel)
      · skip
        refine z_iload_n C rfl dX5_read_13 ?_
        refine z_iconst (v := 4) C (by decide +kernel) dX5_read_14 ?_
        refine z_aload_n C rfl dX5_read_15 ?_
        refine gf_X5_13 C dX5_read_16 ?_
        refine z_iload_n C rfl dX5_read_19 ?_
        refine al_115 (v := μ 2 j) C (j) rfl (by omega) rfl dX5_read_20 ?_
        refine z_imul (v := 4 * (μ 2 j)) C rfl dX5_read_21 ?_
        refine z_icmp_lt (tgt := 29) C dX5_read_22 (by decide) (fun h_22 => ?_) (fun h_22 => ?_)
        · skip
          exact absurd (okW_of hj g_6 h_10 h_22 hsz) hb
        · skip
          refine z_iconst (v := 1) C (by decide +kernel) dX5_read_25 ?_
          refine z_goto (tgt := 30) C dX5_read_26 (by decide) ?_
          refine pf_X5_51 (x := 1) C dX5_read_30 ?_
          refine z_aload_n C rfl dX5_read_33 ?_
          refine gf_X5_51 (v := 1) C rfl dX5_read_34 ?_
          refine z_if_ne (tgt := 49) C dX5_read_37 (by decide) (fun h_37 => ?_) (fun h_37 => ?_)
          · skip
            refine z_iconst (v := 0) C (by decide +kernel) dX5_read_49 ?_
            exact z_endI (hret _ _ dX5_read_50) rfl rfl
          · exact absurd h_37 (by decide +kernel)
set_option maxHeartbeats 4000000 in
set_option maxRecDepth 100000 in
theorem c_X5_read (l : Launch) (D : DD) (n0 : Nat) (κ μ : KH) (o : Int64) (j k z : Nat) (hj : j < 16) (h1 : μ 1 j ≠ 0) (hz : μ 2 j = nI z) (hz40 : z ≤ 40) (hk : k < 4 * z) (y : KH) (hy : y = up μ 0 0 0) (hX : isX (y 6 (40 * j + k / 4))) : HM l D n0 yX5_read cX5_read 3 (some .int) 2 45 [.ref (n0 + 113), .int (nI j), .int (nI k)] (κ, μ, o) (some (.int (mWord y j k))) (κ, y, o) := by
  refine HM.of (by decide) (by simp [Value.category]) (by simp) (Or.inr (Or.inl ⟨_, .int, rfl, rfl, rfl⟩)) ?_
  intro pp ee ss mm aa bb me cd Q C K hret
  show ZZ pp l ee (rmk 2 45) ss mm aa bb me cd D n0 127 3 0 0 Q _ 0 [some (.ref (n0 + 113)), some (.int (nI j)), some (.int (nI k))] []
  refine z_aload_n C rfl dX5_read_0 ?_
  refine z_aload_n C rfl dX5_read_1 ?_
  refine z_iload_n C rfl dX5_read_2 ?_
  refine z_callV (As := [.int (nI j)]) (r := (some (.int (b2i (!decide (μ 1 j = 0)))))) (σ1 := (κ, μ, o)) (st := [.ref (n0 + 113)]) (st1 := [.int (b2i (!decide (μ 1 j = 0))), .ref (n0 + 113)]) C K ok_X5_126 (c_X5_isVolume l D n0 κ μ o j (by omega)) enc_M (by decide) rfl rfl ⟨by decide, by decide⟩ ⟨Nat.zero_le _, Nat.zero_le _⟩ (by simp [Value.category]) dX5_read_3 rfl rfl ?_
  refine z_if_eq (tgt := 25) C dX5_read_6 (by decide) (fun h_6 => ?_) (fun h_6 => ?_)
  · have g_6 := cv_b0 h_6
    exact absurd g_6 (by simp [h1])
  · have g_6 := cv_b1 h_6
    refine z_iload_n C rfl dX5_read_9 ?_
    refine z_if_lt (tgt := 25) C dX5_read_10 (by decide) (fun h_10 => ?_) (fun h_10 => ?_)
    · exact absurd h_10 (nI_pos (by omega))
    · skip
      refine z_iload_n C rfl dX5_read_13 ?_
      refine z_iconst (v := 4) C (by decide +kernel) dX5_read_14 ?_
      refine z_aload_n C rfl dX5_read_15 ?_
      refine gf_X5_13 C dX5_read_16 ?_
      refine z_iload_n C rfl dX5_read_19 ?_
      refine al_115 (v := nI z) C (j) rfl (by omega) hz dX5_read_20 ?_
      refine z_imul (v := nI (4 * z)) C (cv_mul 4 z) dX5_read_21 ?_
      refine z_icmp_lt (tgt := 29) C dX5_read_22 (by decide) (fun h_22 => ?_) (fun h_22 => ?_)
      · have g_22 := cv_lt (a := k) (b := 4 * z) (by omega) (by omega) h_22
        refine z_iconst (v := 0) C (by decide +kernel) dX5_read_29 ?_
        refine pf_X5_51 (x := 0) C dX5_read_30 ?_
        rw [← hy]
        refine z_aload_n C rfl dX5_read_33 ?_
        refine gf_X5_51 (v := 0) C (by rw [hy]; exact up_self) dX5_read_34 ?_
        refine z_if_ne (tgt := 49) C dX5_read_37 (by decide) (fun h_37 => ?_) (fun h_37 => ?_)
        · exact absurd h_37 (by decide +kernel)
        · skip
          refine z_aload_n C rfl dX5_read_40 ?_
          refine z_iload_n C rfl dX5_read_41 ?_
          refine z_iload_n C rfl dX5_read_42 ?_
          refine z_callV (As := [.int (nI j), .int (nI k)]) (r := (some (.int (mWord y j k)))) (σ1 := (κ, y, o)) (st := []) (st1 := [.int (mWord y j k)]) C K ok_X5_83 (c_X5_wordOf l D n0 κ y o j k hj (by omega) hX) enc_M (by decide) rfl rfl ⟨by decide, by decide⟩ ⟨Nat.zero_le _, Nat.zero_le _⟩ (by simp [Value.category]) dX5_read_43 rfl rfl ?_
          refine z_goto (tgt := 50) C dX5_read_46 (by decide) ?_
          exact z_endI (hret _ _ dX5_read_50) rfl rfl
      · have g_22 := cv_nlt (a := k) (b := 4 * z) (by omega) (by omega) h_22
        exact absurd g_22 (by omega)
set_option maxHeartbeats 4000000 in
set_option maxRecDepth 100000 in
theorem c_X5_write (l : Launch) (D : DD) (n0 : Nat) (κ μ : KH) (o : Int64) (j k z : Nat) (hj : j < 16) (h1 : μ 1 j ≠ 0) (hz : μ 2 j = nI z) (hz40 : z ≤ 40) (hk : k < 4 * z) (x : Int32) (y : KH) (hy : y = up μ 0 0 0) (hJ : mJ y) (hn : y 0 23 = nI (nQ y)) (hn8 : nQ y ≤ 8) : HM l D n0 yX5_write cX5_write 6 (some .int) 6 140 [.ref (n0 + 113), .int (nI j), .int (nI k), .int x] (κ, μ, o) (some (.int ((mWr y j k x).2))) (κ, (mWr y j k x).1, o) := by
  refine HM.of (by decide) (by simp [Value.category]) (by simp) (Or.inr (Or.inl ⟨_, .int, rfl, rfl, rfl⟩)) ?_
  intro pp ee ss mm aa bb me cd Q C K hret
  show ZZ pp l ee (rmk 6 140) ss mm aa bb me cd D n0 127 6 0 0 Q _ 0 [some (.ref (n0 + 113)), some (.int (nI j)), some (.int (nI k)), some (.int x), none, none] []
  have hE : y 0 9 = nI (nE y) := hJ.1.1
  have hE9 : nE y < 97 := hJ.1.2
  have hfm := mFM_le y (nE y)
  refine z_aload_n C rfl dX5_write_0 ?_
  refine z_aload_n C rfl dX5_write_1 ?_
  refine z_iload_n C rfl dX5_write_2 ?_
  refine z_callV (As := [.int (nI j)]) (r := (some (.int (b2i (!decide (μ 1 j = 0)))))) (σ1 := (κ, μ, o)) (st := [.ref (n0 + 113)]) (st1 := [.int (b2i (!decide (μ 1 j = 0))), .ref (n0 + 113)]) C K ok_X5_126 (c_X5_isVolume l D n0 κ μ o j (by omega)) enc_M (by decide) rfl rfl ⟨by decide, by decide⟩ ⟨Nat.zero_le _, Nat.zero_le _⟩ (by simp [Value.category]) dX5_write_3 rfl rfl ?_
  refine z_if_eq (tgt := 25) C dX5_write_6 (by decide) (fun h_6 => ?_) (fun h_6 => ?_)
  · have g_6 := cv_b0 h_6
    exact absurd g_6 (by simp [h1])
  · have g_6 := cv_b1 h_6
    refine z_iload_n C rfl dX5_write_9 ?_
    refine z_if_lt (tgt := 25) C dX5_write_10 (by decide) (fun h_10 => ?_) (fun h_10 => ?_)
    · exact absurd h_10 (nI_pos (by omega))
    · skip
      refine z_iload_n C rfl dX5_write_13 ?_
      refine z_iconst (v := 4) C (by decide +kernel) dX5_write_14 ?_
      refine z_aload_n C rfl dX5_write_15 ?_
      refine gf_X5_13 C dX5_write_16 ?_
      refine z_iload_n C rfl dX5_write_19 ?_
      refine al_115 (v := nI z) C (j) rfl (by omega) hz dX5_write_20 ?_
      refine z_imul (v := nI (4 * z)) C (cv_mul 4 z) dX5_write_21 ?_
      refine z_icmp_lt (tgt := 29) C dX5_write_22 (by decide) (fun h_22 => ?_) (fun h_22 => ?_)
      · have g_22 := cv_lt (a := k) (b := 4 * z) (by omega) (by omega) h_22
        refine z_iconst (v := 0) C (by decide +kernel) dX5_write_29 ?_
        refine pf_X5_51 (x := 0) C dX5_write_30 ?_
        rw [← hy]
        refine z_aload_n C rfl dX5_write_33 ?_
        refine gf_X5_51 (v := 0) C (by rw [hy]; exact up_self) dX5_write_34 ?_
        refine z_if_le (tgt := 42) C dX5_write_37 (by decide) (fun h_37 => ?_) (fun h_37 => ?_)
        · skip
          refine z_iload_n C rfl dX5_write_42 ?_
          refine z_iconst (v := 4) C (by decide +kernel) dX5_write_43 ?_
          refine z_idiv (v := nI (k / 4)) C (by decide +kernel) (cv_div (by omega) (by decide) (by decide)) dX5_write_44 ?_
          refine z_istore (ls' := [some (.ref (n0 + 113)), some (.int (nI j)), some (.int (nI k)), some (.int x), some (.int (nI (k / 4))), none]) C (by decide) rfl dX5_write_45 ?_
          refine z_aload_n C rfl dX5_write_47 ?_
          refine gf_X5_110 (v := y 0 16) C rfl dX5_write_48 ?_
          refine z_iconst (v := 1) C (by decide +kernel) dX5_write_51 ?_
          refine z_icmp_ne (tgt := 73) C dX5_write_52 (by decide) (fun h_52 => ?_) (fun h_52 => ?_)
          · skip
            refine z_aload_n C rfl dX5_write_73 ?_
            refine z_iload_n C rfl dX5_write_74 ?_
            refine z_iload C rfl dX5_write_75 ?_
            refine z_callV (As := [.int (nI j), .int (nI (k / 4))]) (r := (some (.int (b2i (mOver y j (k / 4)))))) (σ1 := (κ, y, o)) (st := []) (st1 := [.int (b2i (mOver y j (k / 4)))]) C K ok_X5_113 (c_X5_isOver l D n0 κ y o j (k / 4) hj (by omega)) enc_M (by decide) rfl rfl ⟨by decide, by decide⟩ ⟨Nat.zero_le _, Nat.zero_le _⟩ (by simp [Value.category]) dX5_write_77 rfl rfl ?_
            refine z_if_eq (tgt := 85) C dX5_write_80 (by decide) (fun h_80 => ?_) (fun h_80 => ?_)
            · have g_80 := cv_b0 h_80
              refine z_aload_n C rfl dX5_write_85 ?_
              refine z_iload_n C rfl dX5_write_86 ?_
              refine z_iload C rfl dX5_write_87 ?_
              refine z_callV (As := [.int (nI j), .int (nI (k / 4))]) (r := (some (.int (b2i (mNeed y j (k / 4)))))) (σ1 := (κ, y, o)) (st := []) (st1 := [.int (b2i (mNeed y j (k / 4)))]) C K ok_X5_99 (c_X5_needs l D n0 κ y o j (k / 4) hj (by omega)) enc_M (by decide) rfl rfl ⟨by decide, by decide⟩ ⟨Nat.zero_le _, Nat.zero_le _⟩ (by simp [Value.category]) dX5_write_89 rfl rfl ?_
              refine z_if_ne (tgt := 103) C dX5_write_92 (by decide) (fun h_92 => ?_) (fun h_92 => ?_)
              · have g_92 := cv_b1 h_92
                refine z_aload_n C rfl dX5_write_103 ?_
                refine z_callV (As := []) (r := (some (.int (nI (mFM y (nE y)))))) (σ1 := (κ, y, o)) (st := []) (st1 := [.int (nI (mFM y (nE y)))]) C K ok_X5_92 (c_X5_freeMany l D n0 κ y o (nE y) hE (by omega)) enc_M (by decide) rfl rfl ⟨by decide, by decide⟩ ⟨Nat.zero_le _, Nat.zero_le _⟩ (by simp [Value.category]) dX5_write_104 rfl rfl ?_
                refine z_if_le (tgt := 114) C dX5_write_107 (by decide) (fun h_107 => ?_) (fun h_107 => ?_)
                · have g_107 := cv_le (a := mFM y (nE y)) (b := 0) (by omega) (by omega) h_107
                  have hF0 : mFM y (nE y) = 0 := by omega
                  refine z_iconst (v := 0) C (by decide +kernel) dX5_write_114 ?_
                  refine z_istore (ls' := [some (.ref (n0 + 113)), some (.int (nI j)), some (.int (nI k)), some (.int x), some (.int (nI (k / 4))), some (.int 0)]) C (by decide) rfl dX5_write_115 ?_
                  refine z_aload_n C rfl dX5_write_117 ?_
                  refine gf_X5_110 (v := y 0 16) C rfl dX5_write_118 ?_
                  refine z_if_ne (tgt := 158) C dX5_write_121 (by decide) (fun h_121 => ?_) (fun h_121 => ?_)
                  · skip
                    refine z_aload_n C rfl dX5_write_158 ?_
                    refine gf_X5_110 (v := y 0 16) C rfl dX5_write_159 ?_
                    refine z_iconst (v := 1) C (by decide +kernel) dX5_write_162 ?_
                    refine z_icmp_ne (tgt := 174) C dX5_write_163 (by decide) (fun h_163 => ?_) (fun h_163 => ?_)
                    · skip
                      refine z_iload C rfl dX5_write_174 ?_
                      refine z_if_ne (tgt := 181) C dX5_write_176 (by decide) (fun h_176 => ?_) (fun h_176 => ?_)
                      · exact absurd h_176 (by decide +kernel)
                      · skip
                        refine z_iconst (v := (-1)) C (by decide +kernel) dX5_write_179 ?_
                        exact z_endI (hret _ _ dX5_write_180) (ri (mWr_5 (fun q => absurd q.1 h_52) g_80 g_92 (mWm_i (fun q => h_121 q.1)) h_163 hF0)) (rs (mWr_5 (fun q => absurd q.1 h_52) g_80 g_92 (mWm_i (fun q => h_121 q.1)) h_163 hF0))
                    · skip
                      refine z_aload_n C rfl dX5_write_166 ?_
                      refine z_iload_n C rfl dX5_write_167 ?_
                      refine z_iload_n C rfl dX5_write_168 ?_
                      refine z_iload_n C rfl dX5_write_169 ?_
                      by_cases h8e : nQ y = 8
                      · skip
                        refine z_callV (As := [.int (nI j), .int (nI k), .int x]) (r := (some (.int ((-1))))) (σ1 := (κ, y, o)) (st := []) (st1 := [.int ((-1))]) C K ok_X5_132 (c_X5_enqueue_n l D n0 κ y o (nI j) (nI k) x ((hn : y 0 23 = nI (nQ y)).trans (by rw [h8e]))) enc_M (by decide) rfl rfl ⟨by decide, by decide⟩ ⟨Nat.zero_le _, Nat.zero_le _⟩ (by simp [Value.category]) dX5_write_170 rfl rfl ?_
                        exact z_endI (hret _ _ dX5_write_173) (ri ((mWr_4 (fun q => absurd q.1 h_52) g_80 g_92 (mWm_i (fun q => h_121 q.1)) h_163).trans (mEn_e h8e))) (rs ((mWr_4 (fun q => absurd q.1 h_52) g_80 g_92 (mWm_i (fun q => h_121 q.1)) h_163).trans (mEn_e h8e)))
                      · have h8n : ¬ nQ y = 8 := h8e
                        refine z_callV (As := [.int (nI j), .int (nI k), .int x]) (r := (some (.int 3))) (σ1 := (κ, mEnq y (nQ y) (nI j) (nI k) x, o)) (st := []) (st1 := [.int 3]) C K ok_X5_132 (c_X5_enqueue l D n0 κ y o (nQ y) (nI j) (nI k) x hn (by omega)) enc_M (by decide) rfl rfl ⟨by decide, by decide⟩ ⟨Nat.zero_le _, Nat.zero_le _⟩ (by simp [Value.category]) dX5_write_170 rfl rfl ?_
                        exact z_endI (hret _ _ dX5_write_173) (ri ((mWr_4 (fun q => absurd q.1 h_52) g_80 g_92 (mWm_i (fun q => h_121 q.1)) h_163).trans (mEn_l h8n))) (rs ((mWr_4 (fun q => absurd q.1 h_52) g_80 g_92 (mWm_i (fun q => h_121 q.1)) h_163).trans (mEn_l h8n)))
                  · skip
                    refine z_iload C rfl dX5_write_124 ?_
                    refine z_if_ne (tgt := 158) C dX5_write_126 (by decide) (fun h_126 => ?_) (fun h_126 => ?_)
                    · exact absurd h_126 (by decide +kernel)
                    · skip
                      refine z_aload_n C rfl dX5_write_129 ?_
                      refine z_aload_n C rfl dX5_write_130 ?_
                      refine gf_X5_135 (v := y 0 17) C rfl dX5_write_131 ?_
                      refine z_if_le (tgt := 141) C dX5_write_134 (by decide) (fun h_134 => ?_) (fun h_134 => ?_)
                      · have hp : ¬ 0 < y 0 17 := Int32.not_lt.mpr h_134
                        refine z_iconst (v := 2) C (by decide +kernel) dX5_write_141 ?_
                        refine pf_X5_110 (x := 2) C dX5_write_142 ?_
                        refine z_aload_n C rfl dX5_write_145 ?_
                        refine z_aload_n C rfl dX5_write_146 ?_
                        refine gf_X5_135 (v := y 0 17) C rfl dX5_write_147 ?_
                        refine pf_X5_138 (x := y 0 17) C dX5_write_150 ?_
                        refine z_aload_n C rfl dX5_write_153 ?_
                        refine z_iconst (v := 0) C (by decide +kernel) dX5_write_154 ?_
                        refine pf_X5_141 (x := 0) C dX5_write_155 ?_
                        refine z_aload_n C rfl dX5_write_158 ?_
                        refine gf_X5_110 (v := 2) C rfl dX5_write_159 ?_
                        refine z_iconst (v := 1) C (by decide +kernel) dX5_write_162 ?_
                        refine z_icmp_ne (tgt := 174) C dX5_write_163 (by decide) (fun h_163 => ?_) (fun h_163 => ?_)
                        · skip
                          refine z_iload C rfl dX5_write_174 ?_
                          refine z_if_ne (tgt := 181) C dX5_write_176 (by decide) (fun h_176 => ?_) (fun h_176 => ?_)
                          · exact absurd h_176 (by decide +kernel)
                          · skip
                            refine z_iconst (v := (-1)) C (by decide +kernel) dX5_write_179 ?_
                            exact z_endI (hret _ _ dX5_write_180) (ri (mWr_5 (fun q => absurd q.1 h_52) g_80 g_92 (mWm_n h_121 hF0 hp) (by show ¬ (2 : Int32) = 1; decide +kernel) hF0)) (rs (mWr_5 (fun q => absurd q.1 h_52) g_80 g_92 (mWm_n h_121 hF0 hp) (by show ¬ (2 : Int32) = 1; decide +kernel) hF0))
                        · exact absurd h_163 (by decide +kernel)
                      · have hp : 0 < y 0 17 := Int32.not_le.mp h_134
                        refine z_iconst (v := 1) C (by decide +kernel) dX5_write_137 ?_
                        refine z_goto (tgt := 142) C dX5_write_138 (by decide) ?_
                        refine pf_X5_110 (x := 1) C dX5_write_142 ?_
                        refine z_aload_n C rfl dX5_write_145 ?_
                        refine z_aload_n C rfl dX5_write_146 ?_
                        refine gf_X5_135 (v := y 0 17) C rfl dX5_write_147 ?_
                        refine pf_X5_138 (x := y 0 17) C dX5_write_150 ?_
                        refine z_aload_n C rfl dX5_write_153 ?_
                        refine z_iconst (v := 0) C (by decide +kernel) dX5_write_154 ?_
                        refine pf_X5_141 (x := 0) C dX5_write_155 ?_
                        refine z_aload_n C rfl dX5_write_158 ?_
                        refine gf_X5_110 (v := 1) C rfl dX5_write_159 ?_
                        refine z_iconst (v := 1) C (by decide +kernel) dX5_write_162 ?_
                        refine z_icmp_ne (tgt := 174) C dX5_write_163 (by decide) (fun h_163 => ?_) (fun h_163 => ?_)
                        · exact absurd h_163 (by decide +kernel)
                        · skip
                          refine z_aload_n C rfl dX5_write_166 ?_
                          refine z_iload_n C rfl dX5_write_167 ?_
                          refine z_iload_n C rfl dX5_write_168 ?_
                          refine z_iload_n C rfl dX5_write_169 ?_
                          by_cases h8e : nQ y = 8
                          · skip
                            refine z_callV (As := [.int (nI j), .int (nI k), .int x]) (r := (some (.int ((-1))))) (σ1 := (κ, up (up (up y 0 16 1) 0 18 (y 0 17)) 0 19 0, o)) (st := []) (st1 := [.int ((-1))]) C K ok_X5_132 (c_X5_enqueue_n l D n0 κ (up (up (up y 0 16 1) 0 18 (y 0 17)) 0 19 0) o (nI j) (nI k) x (((by simp [up]; exact hn) : up (up (up y 0 16 1) 0 18 (y 0 17)) 0 19 0 0 23 = nI (nQ y)).trans (by rw [h8e]))) enc_M (by decide) rfl rfl ⟨by decide, by decide⟩ ⟨Nat.zero_le _, Nat.zero_le _⟩ (by simp [Value.category]) dX5_write_170 rfl rfl ?_
                            exact z_endI (hret _ _ dX5_write_173) (ri ((mWr_4 (fun q => absurd q.1 h_52) g_80 g_92 (mWm_p h_121 hF0 hp) rfl).trans (mEn_e h8e))) (rs ((mWr_4 (fun q => absurd q.1 h_52) g_80 g_92 (mWm_p h_121 hF0 hp) rfl).trans (mEn_e h8e)))
                          · have h8n : ¬ nQ y = 8 := h8e
                            refine z_callV (As := [.int (nI j), .int (nI k), .int x]) (r := (some (.int 3))) (σ1 := (κ, mEnq (up (up (up y 0 16 1) 0 18 (y 0 17)) 0 19 0) (nQ y) (nI j) (nI k) x, o)) (st := []) (st1 := [.int 3]) C K ok_X5_132 (c_X5_enqueue l D n0 κ (up (up (up y 0 16 1) 0 18 (y 0 17)) 0 19 0) o (nQ y) (nI j) (nI k) x (by simp [up]; exact hn) (by omega)) enc_M (by decide) rfl rfl ⟨by decide, by decide⟩ ⟨Nat.zero_le _, Nat.zero_le _⟩ (by simp [Value.category]) dX5_write_170 rfl rfl ?_
                            exact z_endI (hret _ _ dX5_write_173) (ri ((mWr_4 (fun q => absurd q.1 h_52) g_80 g_92 (mWm_p h_121 hF0 hp) rfl).trans (mEn_l h8n))) (rs ((mWr_4 (fun q => absurd q.1 h_52) g_80 g_92 (mWm_p h_121 hF0 hp) rfl).trans (mEn_l h8n)))
                · have g_107 := cv_nle (a := mFM y (nE y)) (b := 0) (by omega) (by omega) h_107
                  have hF1 : ¬ mFM y (nE y) = 0 := by omega
                  refine z_iconst (v := 1) C (by decide +kernel) dX5_write_110 ?_
                  refine z_goto (tgt := 115) C dX5_write_111 (by decide) ?_
                  refine z_istore (ls' := [some (.ref (n0 + 113)), some (.int (nI j)), some (.int (nI k)), some (.int x), some (.int (nI (k / 4))), some (.int 1)]) C (by decide) rfl dX5_write_115 ?_
                  refine z_aload_n C rfl dX5_write_117 ?_
                  refine gf_X5_110 (v := y 0 16) C rfl dX5_write_118 ?_
                  refine z_if_ne (tgt := 158) C dX5_write_121 (by decide) (fun h_121 => ?_) (fun h_121 => ?_)
                  · skip
                    refine z_aload_n C rfl dX5_write_158 ?_
                    refine gf_X5_110 (v := y 0 16) C rfl dX5_write_159 ?_
                    refine z_iconst (v := 1) C (by decide +kernel) dX5_write_162 ?_
                    refine z_icmp_ne (tgt := 174) C dX5_write_163 (by decide) (fun h_163 => ?_) (fun h_163 => ?_)
                    · skip
                      refine z_iload C rfl dX5_write_174 ?_
                      refine z_if_ne (tgt := 181) C dX5_write_176 (by decide) (fun h_176 => ?_) (fun h_176 => ?_)
                      · skip
                        refine z_aload_n C rfl dX5_write_181 ?_
                        refine z_iconst (v := 0) C (by decide +kernel) dX5_write_182 ?_
                        refine pf_X5_110 (x := 0) C dX5_write_183 ?_
                        refine z_aload_n C rfl dX5_write_186 ?_
                        refine z_iload_n C rfl dX5_write_187 ?_
                        refine z_iload_n C rfl dX5_write_188 ?_
                        refine z_iload_n C rfl dX5_write_189 ?_
                        refine z_callV (As := [.int (nI j), .int (nI k), .int x]) (r := (some (.int (mPerR (up y 0 16 0) j k)))) (σ1 := (κ, mPerf (up y 0 16 0) j k x, o)) (st := []) (st1 := [.int (mPerR (up y 0 16 0) j k)]) C K ok_X5_123 (c_X5_perform l D n0 κ (up y 0 16 0) o j k x hj (by omega) (mJ_up0 (by decide) (by decide) hJ) (fun _ => by rw [mFM_cg (up_cell (by decide)) (up_cell (by decide))]; exact hF1)) enc_M (by decide) rfl rfl ⟨by decide, by decide⟩ ⟨Nat.zero_le _, Nat.zero_le _⟩ (by simp [Value.category]) dX5_write_190 rfl rfl ?_
                        exact z_endI (hret _ _ dX5_write_193) (ri (mWr_6 (fun q => absurd q.1 h_52) g_80 g_92 (mWm_i (fun q => h_121 q.1)) h_163 hF1)) (rs (mWr_6 (fun q => absurd q.1 h_52) g_80 g_92 (mWm_i (fun q => h_121 q.1)) h_163 hF1))
                      · exact absurd h_176 (by decide +kernel)
                    · skip
                      refine z_aload_n C rfl dX5_write_166 ?_
                      refine z_iload_n C rfl dX5_write_167 ?_
                      refine z_iload_n C rfl dX5_write_168 ?_
                      refine z_iload_n C rfl dX5_write_169 ?_
                      by_cases h8e : nQ y = 8
                      · skip
                        refine z_callV (As := [.int (nI j), .int (nI k), .int x]) (r := (some (.int ((-1))))) (σ1 := (κ, y, o)) (st := []) (st1 := [.int ((-1))]) C K ok_X5_132 (c_X5_enqueue_n l D n0 κ y o (nI j) (nI k) x ((hn : y 0 23 = nI (nQ y)).trans (by rw [h8e]))) enc_M (by decide) rfl rfl ⟨by decide, by decide⟩ ⟨Nat.zero_le _, Nat.zero_le _⟩ (by simp [Value.category]) dX5_write_170 rfl rfl ?_
                        exact z_endI (hret _ _ dX5_write_173) (ri ((mWr_4 (fun q => absurd q.1 h_52) g_80 g_92 (mWm_i (fun q => h_121 q.1)) h_163).trans (mEn_e h8e))) (rs ((mWr_4 (fun q => absurd q.1 h_52) g_80 g_92 (mWm_i (fun q => h_121 q.1)) h_163).trans (mEn_e h8e)))
                      · have h8n : ¬ nQ y = 8 := h8e
                        refine z_callV (As := [.int (nI j), .int (nI k), .int x]) (r := (some (.int 3))) (σ1 := (κ, mEnq y (nQ y) (nI j) (nI k) x, o)) (st := []) (st1 := [.int 3]) C K ok_X5_132 (c_X5_enqueue l D n0 κ y o (nQ y) (nI j) (nI k) x hn (by omega)) enc_M (by decide) rfl rfl ⟨by decide, by decide⟩ ⟨Nat.zero_le _, Nat.zero_le _⟩ (by simp [Value.category]) dX5_write_170 rfl rfl ?_
                        exact z_endI (hret _ _ dX5_write_173) (ri ((mWr_4 (fun q => absurd q.1 h_52) g_80 g_92 (mWm_i (fun q => h_121 q.1)) h_163).trans (mEn_l h8n))) (rs ((mWr_4 (fun q => absurd q.1 h_52) g_80 g_92 (mWm_i (fun q => h_121 q.1)) h_163).trans (mEn_l h8n)))
                  · skip
                    refine z_iload C rfl dX5_write_124 ?_
                    refine z_if_ne (tgt := 158) C dX5_write_126 (by decide) (fun h_126 => ?_) (fun h_126 => ?_)
                    · skip
                      refine z_aload_n C rfl dX5_write_158 ?_
                      refine gf_X5_110 (v := y 0 16) C rfl dX5_write_159 ?_
                      refine z_iconst (v := 1) C (by decide +kernel) dX5_write_162 ?_
                      refine z_icmp_ne (tgt := 174) C dX5_write_163 (by decide) (fun h_163 => ?_) (fun h_163 => ?_)
                      · skip
                        refine z_iload C rfl dX5_write_174 ?_
                        refine z_if_ne (tgt := 181) C dX5_write_176 (by decide) (fun h_176 => ?_) (fun h_176 => ?_)
                        · skip
                          refine z_aload_n C rfl dX5_write_181 ?_
                          refine z_iconst (v := 0) C (by decide +kernel) dX5_write_182 ?_
                          refine pf_X5_110 (x := 0) C dX5_write_183 ?_
                          refine z_aload_n C rfl dX5_write_186 ?_
                          refine z_iload_n C rfl dX5_write_187 ?_
                          refine z_iload_n C rfl dX5_write_188 ?_
                          refine z_iload_n C rfl dX5_write_189 ?_
                          refine z_callV (As := [.int (nI j), .int (nI k), .int x]) (r := (some (.int (mPerR (up y 0 16 0) j k)))) (σ1 := (κ, mPerf (up y 0 16 0) j k x, o)) (st := []) (st1 := [.int (mPerR (up y 0 16 0) j k)]) C K ok_X5_123 (c_X5_perform l D n0 κ (up y 0 16 0) o j k x hj (by omega) (mJ_up0 (by decide) (by decide) hJ) (fun _ => by rw [mFM_cg (up_cell (by decide)) (up_cell (by decide))]; exact hF1)) enc_M (by decide) rfl rfl ⟨by decide, by decide⟩ ⟨Nat.zero_le _, Nat.zero_le _⟩ (by simp [Value.category]) dX5_write_190 rfl rfl ?_
                          exact z_endI (hret _ _ dX5_write_193) (ri (mWr_6 (fun q => absurd q.1 h_52) g_80 g_92 (mWm_i (fun q => hF1 q.2)) h_163 hF1)) (rs (mWr_6 (fun q => absurd q.1 h_52) g_80 g_92 (mWm_i (fun q => hF1 q.2)) h_163 hF1))
                        · exact absurd h_176 (by decide +kernel)
                      · skip
                        refine z_aload_n C rfl dX5_write_166 ?_
                        refine z_iload_n C rfl dX5_write_167 ?_
                        refine z_iload_n C rfl dX5_write_168 ?_
                        refine z_iload_n C rfl dX5_write_169 ?_
                        by_cases h8e : nQ y = 8
                        · skip
                          refine z_callV (As := [.int (nI j), .int (nI k), .int x]) (r := (some (.int ((-1))))) (σ1 := (κ, y, o)) (st := []) (st1 := [.int ((-1))]) C K ok_X5_132 (c_X5_enqueue_n l D n0 κ y o (nI j) (nI k) x ((hn : y 0 23 = nI (nQ y)).trans (by rw [h8e]))) enc_M (by decide) rfl rfl ⟨by decide, by decide⟩ ⟨Nat.zero_le _, Nat.zero_le _⟩ (by simp [Value.category]) dX5_write_170 rfl rfl ?_
                          exact z_endI (hret _ _ dX5_write_173) (ri ((mWr_4 (fun q => absurd q.1 h_52) g_80 g_92 (mWm_i (fun q => hF1 q.2)) h_163).trans (mEn_e h8e))) (rs ((mWr_4 (fun q => absurd q.1 h_52) g_80 g_92 (mWm_i (fun q => hF1 q.2)) h_163).trans (mEn_e h8e)))
                        · have h8n : ¬ nQ y = 8 := h8e
                          refine z_callV (As := [.int (nI j), .int (nI k), .int x]) (r := (some (.int 3))) (σ1 := (κ, mEnq y (nQ y) (nI j) (nI k) x, o)) (st := []) (st1 := [.int 3]) C K ok_X5_132 (c_X5_enqueue l D n0 κ y o (nQ y) (nI j) (nI k) x hn (by omega)) enc_M (by decide) rfl rfl ⟨by decide, by decide⟩ ⟨Nat.zero_le _, Nat.zero_le _⟩ (by simp [Value.category]) dX5_write_170 rfl rfl ?_
                          exact z_endI (hret _ _ dX5_write_173) (ri ((mWr_4 (fun q => absurd q.1 h_52) g_80 g_92 (mWm_i (fun q => hF1 q.2)) h_163).trans (mEn_l h8n))) (rs ((mWr_4 (fun q => absurd q.1 h_52) g_80 g_92 (mWm_i (fun q => hF1 q.2)) h_163).trans (mEn_l h8n)))
                    · exact absurd h_126 (by decide +kernel)
              · have g_92 := cv_b0 h_92
                refine z_aload_n C rfl dX5_write_95 ?_
                refine z_iload_n C rfl dX5_write_96 ?_
                refine z_iload_n C rfl dX5_write_97 ?_
                refine z_iload_n C rfl dX5_write_98 ?_
                refine z_callV (As := [.int (nI j), .int (nI k), .int x]) (r := (some (.int (mPerR y j k)))) (σ1 := (κ, mPerf y j k x, o)) (st := []) (st1 := [.int (mPerR y j k)]) C K ok_X5_123 (c_X5_perform l D n0 κ y o j k x hj (by omega) hJ (fun q => absurd q (by rw [g_92]; decide))) enc_M (by decide) rfl rfl ⟨by decide, by decide⟩ ⟨Nat.zero_le _, Nat.zero_le _⟩ (by simp [Value.category]) dX5_write_99 rfl rfl ?_
                exact z_endI (hret _ _ dX5_write_102) (ri (mWr_3 (fun q => absurd q.1 h_52) g_80 g_92)) (rs (mWr_3 (fun q => absurd q.1 h_52) g_80 g_92))
            · have g_80 := cv_b1 h_80
              refine z_iconst (v := (-1)) C (by decide +kernel) dX5_write_83 ?_
              exact z_endI (hret _ _ dX5_write_84) (ri (mWr_2 (fun q => absurd q.1 h_52) g_80)) (rs (mWr_2 (fun q => absurd q.1 h_52) g_80))
          · skip
            refine z_aload_n C rfl dX5_write_55 ?_
            refine z_iload_n C rfl dX5_write_56 ?_
            refine z_iload C rfl dX5_write_57 ?_
            refine z_callV (As := [.int (nI j), .int (nI (k / 4))]) (r := (some (.int (b2i (mWait y (nQ y) j (k / 4)))))) (σ1 := (κ, y, o)) (st := []) (st1 := [.int (b2i (mWait y (nQ y) j (k / 4)))]) C K ok_X5_129 (c_X5_waits l D n0 κ y o (nQ y) j (k / 4) hn hn8) enc_M (by decide) rfl rfl ⟨by decide, by decide⟩ ⟨Nat.zero_le _, Nat.zero_le _⟩ (by simp [Value.category]) dX5_write_59 rfl rfl ?_
            refine z_if_eq (tgt := 73) C dX5_write_62 (by decide) (fun h_62 => ?_) (fun h_62 => ?_)
            · have g_62 := cv_b0 h_62
              refine z_aload_n C rfl dX5_write_73 ?_
              refine z_iload_n C rfl dX5_write_74 ?_
              refine z_iload C rfl dX5_write_75 ?_
              refine z_callV (As := [.int (nI j), .int (nI (k / 4))]) (r := (some (.int (b2i (mOver y j (k / 4)))))) (σ1 := (κ, y, o)) (st := []) (st1 := [.int (b2i (mOver y j (k / 4)))]) C K ok_X5_113 (c_X5_isOver l D n0 κ y o j (k / 4) hj (by omega)) enc_M (by decide) rfl rfl ⟨by decide, by decide⟩ ⟨Nat.zero_le _, Nat.zero_le _⟩ (by simp [Value.category]) dX5_write_77 rfl rfl ?_
              refine z_if_eq (tgt := 85) C dX5_write_80 (by decide) (fun h_80 => ?_) (fun h_80 => ?_)
              · have g_80 := cv_b0 h_80
                refine z_aload_n C rfl dX5_write_85 ?_
                refine z_iload_n C rfl dX5_write_86 ?_
                refine z_iload C rfl dX5_write_87 ?_
                refine z_callV (As := [.int (nI j), .int (nI (k / 4))]) (r := (some (.int (b2i (mNeed y j (k / 4)))))) (σ1 := (κ, y, o)) (st := []) (st1 := [.int (b2i (mNeed y j (k / 4)))]) C K ok_X5_99 (c_X5_needs l D n0 κ y o j (k / 4) hj (by omega)) enc_M (by decide) rfl rfl ⟨by decide, by decide⟩ ⟨Nat.zero_le _, Nat.zero_le _⟩ (by simp [Value.category]) dX5_write_89 rfl rfl ?_
                refine z_if_ne (tgt := 103) C dX5_write_92 (by decide) (fun h_92 => ?_) (fun h_92 => ?_)
                · have g_92 := cv_b1 h_92
                  refine z_aload_n C rfl dX5_write_103 ?_
                  refine z_callV (As := []) (r := (some (.int (nI (mFM y (nE y)))))) (σ1 := (κ, y, o)) (st := []) (st1 := [.int (nI (mFM y (nE y)))]) C K ok_X5_92 (c_X5_freeMany l D n0 κ y o (nE y) hE (by omega)) enc_M (by decide) rfl rfl ⟨by decide, by decide⟩ ⟨Nat.zero_le _, Nat.zero_le _⟩ (by simp [Value.category]) dX5_write_104 rfl rfl ?_
                  refine z_if_le (tgt := 114) C dX5_write_107 (by decide) (fun h_107 => ?_) (fun h_107 => ?_)
                  · have g_107 := cv_le (a := mFM y (nE y)) (b := 0) (by omega) (by omega) h_107
                    have hF0 : mFM y (nE y) = 0 := by omega
                    refine z_iconst (v := 0) C (by decide +kernel) dX5_write_114 ?_
                    refine z_istore (ls' := [some (.ref (n0 + 113)), some (.int (nI j)), some (.int (nI k)), some (.int x), some (.int (nI (k / 4))), some (.int 0)]) C (by decide) rfl dX5_write_115 ?_
                    refine z_aload_n C rfl dX5_write_117 ?_
                    refine gf_X5_110 (v := y 0 16) C rfl dX5_write_118 ?_
                    refine z_if_ne (tgt := 158) C dX5_write_121 (by decide) (fun h_121 => ?_) (fun h_121 => ?_)
                    · skip
                      refine z_aload_n C rfl dX5_write_158 ?_
                      refine gf_X5_110 (v := y 0 16) C rfl dX5_write_159 ?_
                      refine z_iconst (v := 1) C (by decide +kernel) dX5_write_162 ?_
                      refine z_icmp_ne (tgt := 174) C dX5_write_163 (by decide) (fun h_163 => ?_) (fun h_163 => ?_)
                      · skip
                        refine z_iload C rfl dX5_write_174 ?_
                        refine z_if_ne (tgt := 181) C dX5_write_176 (by decide) (fun h_176 => ?_) (fun h_176 => ?_)
                        · exact absurd h_176 (by decide +kernel)
                        · skip
                          refine z_iconst (v := (-1)) C (by decide +kernel) dX5_write_179 ?_
                          exact z_endI (hret _ _ dX5_write_180) (ri (mWr_5 (fun q => absurd q.2 (by rw [g_62]; decide)) g_80 g_92 (mWm_i (fun q => h_121 q.1)) h_163 hF0)) (rs (mWr_5 (fun q => absurd q.2 (by rw [g_62]; decide)) g_80 g_92 (mWm_i (fun q => h_121 q.1)) h_163 hF0))
                      · skip
                        refine z_aload_n C rfl dX5_write_166 ?_
                        refine z_iload_n C rfl dX5_write_167 ?_
                        refine z_iload_n C rfl dX5_write_168 ?_
                        refine z_iload_n C rfl dX5_write_169 ?_
                        by_cases h8e : nQ y = 8
                        · skip
                          refine z_callV (As := [.int (nI j), .int (nI k), .int x]) (r := (some (.int ((-1))))) (σ1 := (κ, y, o)) (st := []) (st1 := [.int ((-1))]) C K ok_X5_132 (c_X5_enqueue_n l D n0 κ y o (nI j) (nI k) x ((hn : y 0 23 = nI (nQ y)).trans (by rw [h8e]))) enc_M (by decide) rfl rfl ⟨by decide, by decide⟩ ⟨Nat.zero_le _, Nat.zero_le _⟩ (by simp [Value.category]) dX5_write_170 rfl rfl ?_
                          exact z_endI (hret _ _ dX5_write_173) (ri ((mWr_4 (fun q => absurd q.2 (by rw [g_62]; decide)) g_80 g_92 (mWm_i (fun q => h_121 q.1)) h_163).trans (mEn_e h8e))) (rs ((mWr_4 (fun q => absurd q.2 (by rw [g_62]; decide)) g_80 g_92 (mWm_i (fun q => h_121 q.1)) h_163).trans (mEn_e h8e)))
                        · have h8n : ¬ nQ y = 8 := h8e
                          refine z_callV (As := [.int (nI j), .int (nI k), .int x]) (r := (some (.int 3))) (σ1 := (κ, mEnq y (nQ y) (nI j) (nI k) x, o)) (st := []) (st1 := [.int 3]) C K ok_X5_132 (c_X5_enqueue l D n0 κ y o (nQ y) (nI j) (nI k) x hn (by omega)) enc_M (by decide) rfl rfl ⟨by decide, by decide⟩ ⟨Nat.zero_le _, Nat.zero_le _⟩ (by simp [Value.category]) dX5_write_170 rfl rfl ?_
                          exact z_endI (hret _ _ dX5_write_173) (ri ((mWr_4 (fun q => absurd q.2 (by rw [g_62]; decide)) g_80 g_92 (mWm_i (fun q => h_121 q.1)) h_163).trans (mEn_l h8n))) (rs ((mWr_4 (fun q => absurd q.2 (by rw [g_62]; decide)) g_80 g_92 (mWm_i (fun q => h_121 q.1)) h_163).trans (mEn_l h8n)))
                    · skip
                      refine z_iload C rfl dX5_write_124 ?_
                      refine z_if_ne (tgt := 158) C dX5_write_126 (by decide) (fun h_126 => ?_) (fun h_126 => ?_)
                      · exact absurd h_126 (by decide +kernel)
                      · skip
                        refine z_aload_n C rfl dX5_write_129 ?_
                        refine z_aload_n C rfl dX5_write_130 ?_
                        refine gf_X5_135 (v := y 0 17) C rfl dX5_write_131 ?_
                        refine z_if_le (tgt := 141) C dX5_write_134 (by decide) (fun h_134 => ?_) (fun h_134 => ?_)
                        · have hp : ¬ 0 < y 0 17 := Int32.not_lt.mpr h_134
                          refine z_iconst (v := 2) C (by decide +kernel) dX5_write_141 ?_
                          refine pf_X5_110 (x := 2) C dX5_write_142 ?_
                          refine z_aload_n C rfl dX5_write_145 ?_
                          refine z_aload_n C rfl dX5_write_146 ?_
                          refine gf_X5_135 (v := y 0 17) C rfl dX5_write_147 ?_
                          refine pf_X5_138 (x := y 0 17) C dX5_write_150 ?_
                          refine z_aload_n C rfl dX5_write_153 ?_
                          refine z_iconst (v := 0) C (by decide +kernel) dX5_write_154 ?_
                          refine pf_X5_141 (x := 0) C dX5_write_155 ?_
                          refine z_aload_n C rfl dX5_write_158 ?_
                          refine gf_X5_110 (v := 2) C rfl dX5_write_159 ?_
                          refine z_iconst (v := 1) C (by decide +kernel) dX5_write_162 ?_
                          refine z_icmp_ne (tgt := 174) C dX5_write_163 (by decide) (fun h_163 => ?_) (fun h_163 => ?_)
                          · skip
                            refine z_iload C rfl dX5_write_174 ?_
                            refine z_if_ne (tgt := 181) C dX5_write_176 (by decide) (fun h_176 => ?_) (fun h_176 => ?_)
                            · exact absurd h_176 (by decide +kernel)
                            · skip
                              refine z_iconst (v := (-1)) C (by decide +kernel) dX5_write_179 ?_
                              exact z_endI (hret _ _ dX5_write_180) (ri (mWr_5 (fun q => absurd q.2 (by rw [g_62]; decide)) g_80 g_92 (mWm_n h_121 hF0 hp) (by show ¬ (2 : Int32) = 1; decide +kernel) hF0)) (rs (mWr_5 (fun q => absurd q.2 (by rw [g_62]; decide)) g_80 g_92 (mWm_n h_121 hF0 hp) (by show ¬ (2 : Int32) = 1; decide +kernel) hF0))
                          · exact absurd h_163 (by decide +kernel)
                        · have hp : 0 < y 0 17 := Int32.not_le.mp h_134
                          refine z_iconst (v := 1) C (by decide +kernel) dX5_write_137 ?_
                          refine z_goto (tgt := 142) C dX5_write_138 (by decide) ?_
                          refine pf_X5_110 (x := 1) C dX5_write_142 ?_
                          refine z_aload_n C rfl dX5_write_145 ?_
                          refine z_aload_n C rfl dX5_write_146 ?_
                          refine gf_X5_135 (v := y 0 17) C rfl dX5_write_147 ?_
                          refine pf_X5_138 (x := y 0 17) C dX5_write_150 ?_
                          refine z_aload_n C rfl dX5_write_153 ?_
                          refine z_iconst (v := 0) C (by decide +kernel) dX5_write_154 ?_
                          refine pf_X5_141 (x := 0) C dX5_write_155 ?_
                          refine z_aload_n C rfl dX5_write_158 ?_
                          refine gf_X5_110 (v := 1) C rfl dX5_write_159 ?_
                          refine z_iconst (v := 1) C (by decide +kernel) dX5_write_162 ?_
                          refine z_icmp_ne (tgt := 174) C dX5_write_163 (by decide) (fun h_163 => ?_) (fun h_163 => ?_)
                          · exact absurd h_163 (by decide +kernel)
                          · skip
                            refine z_aload_n C rfl dX5_write_166 ?_
                            refine z_iload_n C rfl dX5_write_167 ?_
                            refine z_iload_n C rfl dX5_write_168 ?_
                            refine z_iload_n C rfl dX5_write_169 ?_
                            by_cases h8e : nQ y = 8
                            · skip
                              refine z_callV (As := [.int (nI j), .int (nI k), .int x]) (r := (some (.int ((-1))))) (σ1 := (κ, up (up (up y 0 16 1) 0 18 (y 0 17)) 0 19 0, o)) (st := []) (st1 := [.int ((-1))]) C K ok_X5_132 (c_X5_enqueue_n l D n0 κ (up (up (up y 0 16 1) 0 18 (y 0 17)) 0 19 0) o (nI j) (nI k) x (((by simp [up]; exact hn) : up (up (up y 0 16 1) 0 18 (y 0 17)) 0 19 0 0 23 = nI (nQ y)).trans (by rw [h8e]))) enc_M (by decide) rfl rfl ⟨by decide, by decide⟩ ⟨Nat.zero_le _, Nat.zero_le _⟩ (by simp [Value.category]) dX5_write_170 rfl rfl ?_
                              exact z_endI (hret _ _ dX5_write_173) (ri ((mWr_4 (fun q => absurd q.2 (by rw [g_62]; decide)) g_80 g_92 (mWm_p h_121 hF0 hp) rfl).trans (mEn_e h8e))) (rs ((mWr_4 (fun q => absurd q.2 (by rw [g_62]; decide)) g_80 g_92 (mWm_p h_121 hF0 hp) rfl).trans (mEn_e h8e)))
                            · have h8n : ¬ nQ y = 8 := h8e
                              refine z_callV (As := [.int (nI j), .int (nI k), .int x]) (r := (some (.int 3))) (σ1 := (κ, mEnq (up (up (up y 0 16 1) 0 18 (y 0 17)) 0 19 0) (nQ y) (nI j) (nI k) x, o)) (st := []) (st1 := [.int 3]) C K ok_X5_132 (c_X5_enqueue l D n0 κ (up (up (up y 0 16 1) 0 18 (y 0 17)) 0 19 0) o (nQ y) (nI j) (nI k) x (by simp [up]; exact hn) (by omega)) enc_M (by decide) rfl rfl ⟨by decide, by decide⟩ ⟨Nat.zero_le _, Nat.zero_le _⟩ (by simp [Value.category]) dX5_write_170 rfl rfl ?_
                              exact z_endI (hret _ _ dX5_write_173) (ri ((mWr_4 (fun q => absurd q.2 (by rw [g_62]; decide)) g_80 g_92 (mWm_p h_121 hF0 hp) rfl).trans (mEn_l h8n))) (rs ((mWr_4 (fun q => absurd q.2 (by rw [g_62]; decide)) g_80 g_92 (mWm_p h_121 hF0 hp) rfl).trans (mEn_l h8n)))
                  · have g_107 := cv_nle (a := mFM y (nE y)) (b := 0) (by omega) (by omega) h_107
                    have hF1 : ¬ mFM y (nE y) = 0 := by omega
                    refine z_iconst (v := 1) C (by decide +kernel) dX5_write_110 ?_
                    refine z_goto (tgt := 115) C dX5_write_111 (by decide) ?_
                    refine z_istore (ls' := [some (.ref (n0 + 113)), some (.int (nI j)), some (.int (nI k)), some (.int x), some (.int (nI (k / 4))), some (.int 1)]) C (by decide) rfl dX5_write_115 ?_
                    refine z_aload_n C rfl dX5_write_117 ?_
                    refine gf_X5_110 (v := y 0 16) C rfl dX5_write_118 ?_
                    refine z_if_ne (tgt := 158) C dX5_write_121 (by decide) (fun h_121 => ?_) (fun h_121 => ?_)
                    · skip
                      refine z_aload_n C rfl dX5_write_158 ?_
                      refine gf_X5_110 (v := y 0 16) C rfl dX5_write_159 ?_
                      refine z_iconst (v := 1) C (by decide +kernel) dX5_write_162 ?_
                      refine z_icmp_ne (tgt := 174) C dX5_write_163 (by decide) (fun h_163 => ?_) (fun h_163 => ?_)
                      · skip
                        refine z_iload C rfl dX5_write_174 ?_
                        refine z_if_ne (tgt := 181) C dX5_write_176 (by decide) (fun h_176 => ?_) (fun h_176 => ?_)
                        · skip
                          refine z_aload_n C rfl dX5_write_181 ?_
                          refine z_iconst (v := 0) C (by decide +kernel) dX5_write_182 ?_
                          refine pf_X5_110 (x := 0) C dX5_write_183 ?_
                          refine z_aload_n C rfl dX5_write_186 ?_
                          refine z_iload_n C rfl dX5_write_187 ?_
                          refine z_iload_n C rfl dX5_write_188 ?_
                          refine z_iload_n C rfl dX5_write_189 ?_
                          refine z_callV (As := [.int (nI j), .int (nI k), .int x]) (r := (some (.int (mPerR (up y 0 16 0) j k)))) (σ1 := (κ, mPerf (up y 0 16 0) j k x, o)) (st := []) (st1 := [.int (mPerR (up y 0 16 0) j k)]) C K ok_X5_123 (c_X5_perform l D n0 κ (up y 0 16 0) o j k x hj (by omega) (mJ_up0 (by decide) (by decide) hJ) (fun _ => by rw [mFM_cg (up_cell (by decide)) (up_cell (by decide))]; exact hF1)) enc_M (by decide) rfl rfl ⟨by decide, by decide⟩ ⟨Nat.zero_le _, Nat.zero_le _⟩ (by simp [Value.category]) dX5_write_190 rfl rfl ?_
                          exact z_endI (hret _ _ dX5_write_193) (ri (mWr_6 (fun q => absurd q.2 (by rw [g_62]; decide)) g_80 g_92 (mWm_i (fun q => h_121 q.1)) h_163 hF1)) (rs (mWr_6 (fun q => absurd q.2 (by rw [g_62]; decide)) g_80 g_92 (mWm_i (fun q => h_121 q.1)) h_163 hF1))
                        · exact absurd h_176 (by decide +kernel)
                      · skip
                        refine z_aload_n C rfl dX5_write_166 ?_
                        refine z_iload_n C rfl dX5_write_167 ?_
                        refine z_iload_n C rfl dX5_write_168 ?_
                        refine z_iload_n C rfl dX5_write_169 ?_
                        by_cases h8e : nQ y = 8
                        · skip
                          refine z_callV (As := [.int (nI j), .int (nI k), .int x]) (r := (some (.int ((-1))))) (σ1 := (κ, y, o)) (st := []) (st1 := [.int ((-1))]) C K ok_X5_132 (c_X5_enqueue_n l D n0 κ y o (nI j) (nI k) x ((hn : y 0 23 = nI (nQ y)).trans (by rw [h8e]))) enc_M (by decide) rfl rfl ⟨by decide, by decide⟩ ⟨Nat.zero_le _, Nat.zero_le _⟩ (by simp [Value.category]) dX5_write_170 rfl rfl ?_
                          exact z_endI (hret _ _ dX5_write_173) (ri ((mWr_4 (fun q => absurd q.2 (by rw [g_62]; decide)) g_80 g_92 (mWm_i (fun q => h_121 q.1)) h_163).trans (mEn_e h8e))) (rs ((mWr_4 (fun q => absurd q.2 (by rw [g_62]; decide)) g_80 g_92 (mWm_i (fun q => h_121 q.1)) h_163).trans (mEn_e h8e)))
                        · have h8n : ¬ nQ y = 8 := h8e
                          refine z_callV (As := [.int (nI j), .int (nI k), .int x]) (r := (some (.int 3))) (σ1 := (κ, mEnq y (nQ y) (nI j) (nI k) x, o)) (st := []) (st1 := [.int 3]) C K ok_X5_132 (c_X5_enqueue l D n0 κ y o (nQ y) (nI j) (nI k) x hn (by omega)) enc_M (by decide) rfl rfl ⟨by decide, by decide⟩ ⟨Nat.zero_le _, Nat.zero_le _⟩ (by simp [Value.category]) dX5_write_170 rfl rfl ?_
                          exact z_endI (hret _ _ dX5_write_173) (ri ((mWr_4 (fun q => absurd q.2 (by rw [g_62]; decide)) g_80 g_92 (mWm_i (fun q => h_121 q.1)) h_163).trans (mEn_l h8n))) (rs ((mWr_4 (fun q => absurd q.2 (by rw [g_62]; decide)) g_80 g_92 (mWm_i (fun q => h_121 q.1)) h_163).trans (mEn_l h8n)))
                    · skip
                      refine z_iload C rfl dX5_write_124 ?_
                      refine z_if_ne (tgt := 158) C dX5_write_126 (by decide) (fun h_126 => ?_) (fun h_126 => ?_)
                      · skip
                        refine z_aload_n C rfl dX5_write_158 ?_
                        refine gf_X5_110 (v := y 0 16) C rfl dX5_write_159 ?_
                        refine z_iconst (v := 1) C (by decide +kernel) dX5_write_162 ?_
                        refine z_icmp_ne (tgt := 174) C dX5_write_163 (by decide) (fun h_163 => ?_) (fun h_163 => ?_)
                        · skip
                          refine z_iload C rfl dX5_write_174 ?_
                          refine z_if_ne (tgt := 181) C dX5_write_176 (by decide) (fun h_176 => ?_) (fun h_176 => ?_)
                          · skip
                            refine z_aload_n C rfl dX5_write_181 ?_
                            refine z_iconst (v := 0) C (by decide +kernel) dX5_write_182 ?_
                            refine pf_X5_110 (x := 0) C dX5_write_183 ?_
                            refine z_aload_n C rfl dX5_write_186 ?_
                            refine z_iload_n C rfl dX5_write_187 ?_
                            refine z_iload_n C rfl dX5_write_188 ?_
                            refine z_iload_n C rfl dX5_write_189 ?_
                            refine z_callV (As := [.int (nI j), .int (nI k), .int x]) (r := (some (.int (mPerR (up y 0 16 0) j k)))) (σ1 := (κ, mPerf (up y 0 16 0) j k x, o)) (st := []) (st1 := [.int (mPerR (up y 0 16 0) j k)]) C K ok_X5_123 (c_X5_perform l D n0 κ (up y 0 16 0) o j k x hj (by omega) (mJ_up0 (by decide) (by decide) hJ) (fun _ => by rw [mFM_cg (up_cell (by decide)) (up_cell (by decide))]; exact hF1)) enc_M (by decide) rfl rfl ⟨by decide, by decide⟩ ⟨Nat.zero_le _, Nat.zero_le _⟩ (by simp [Value.category]) dX5_write_190 rfl rfl ?_
                            exact z_endI (hret _ _ dX5_write_193) (ri (mWr_6 (fun q => absurd q.2 (by rw [g_62]; decide)) g_80 g_92 (mWm_i (fun q => hF1 q.2)) h_163 hF1)) (rs (mWr_6 (fun q => absurd q.2 (by rw [g_62]; decide)) g_80 g_92 (mWm_i (fun q => hF1 q.2)) h_163 hF1))
                          · exact absurd h_176 (by decide +kernel)
                        · skip
                          refine z_aload_n C rfl dX5_write_166 ?_
                          refine z_iload_n C rfl dX5_write_167 ?_
                          refine z_iload_n C rfl dX5_write_168 ?_
                          refine z_iload_n C rfl dX5_write_169 ?_
                          by_cases h8e : nQ y = 8
                          · skip
                            refine z_callV (As := [.int (nI j), .int (nI k), .int x]) (r := (some (.int ((-1))))) (σ1 := (κ, y, o)) (st := []) (st1 := [.int ((-1))]) C K ok_X5_132 (c_X5_enqueue_n l D n0 κ y o (nI j) (nI k) x ((hn : y 0 23 = nI (nQ y)).trans (by rw [h8e]))) enc_M (by decide) rfl rfl ⟨by decide, by decide⟩ ⟨Nat.zero_le _, Nat.zero_le _⟩ (by simp [Value.category]) dX5_write_170 rfl rfl ?_
                            exact z_endI (hret _ _ dX5_write_173) (ri ((mWr_4 (fun q => absurd q.2 (by rw [g_62]; decide)) g_80 g_92 (mWm_i (fun q => hF1 q.2)) h_163).trans (mEn_e h8e))) (rs ((mWr_4 (fun q => absurd q.2 (by rw [g_62]; decide)) g_80 g_92 (mWm_i (fun q => hF1 q.2)) h_163).trans (mEn_e h8e)))
                          · have h8n : ¬ nQ y = 8 := h8e
                            refine z_callV (As := [.int (nI j), .int (nI k), .int x]) (r := (some (.int 3))) (σ1 := (κ, mEnq y (nQ y) (nI j) (nI k) x, o)) (st := []) (st1 := [.int 3]) C K ok_X5_132 (c_X5_enqueue l D n0 κ y o (nQ y) (nI j) (nI k) x hn (by omega)) enc_M (by decide) rfl rfl ⟨by decide, by decide⟩ ⟨Nat.zero_le _, Nat.zero_le _⟩ (by simp [Value.category]) dX5_write_170 rfl rfl ?_
                            exact z_endI (hret _ _ dX5_write_173) (ri ((mWr_4 (fun q => absurd q.2 (by rw [g_62]; decide)) g_80 g_92 (mWm_i (fun q => hF1 q.2)) h_163).trans (mEn_l h8n))) (rs ((mWr_4 (fun q => absurd q.2 (by rw [g_62]; decide)) g_80 g_92 (mWm_i (fun q => hF1 q.2)) h_163).trans (mEn_l h8n)))
                      · exact absurd h_126 (by decide +kernel)
                · have g_92 := cv_b0 h_92
                  refine z_aload_n C rfl dX5_write_95 ?_
                  refine z_iload_n C rfl dX5_write_96 ?_
                  refine z_iload_n C rfl dX5_write_97 ?_
                  refine z_iload_n C rfl dX5_write_98 ?_
                  refine z_callV (As := [.int (nI j), .int (nI k), .int x]) (r := (some (.int (mPerR y j k)))) (σ1 := (κ, mPerf y j k x, o)) (st := []) (st1 := [.int (mPerR y j k)]) C K ok_X5_123 (c_X5_perform l D n0 κ y o j k x hj (by omega) hJ (fun q => absurd q (by rw [g_92]; decide))) enc_M (by decide) rfl rfl ⟨by decide, by decide⟩ ⟨Nat.zero_le _, Nat.zero_le _⟩ (by simp [Value.category]) dX5_write_99 rfl rfl ?_
                  exact z_endI (hret _ _ dX5_write_102) (ri (mWr_3 (fun q => absurd q.2 (by rw [g_62]; decide)) g_80 g_92)) (rs (mWr_3 (fun q => absurd q.2 (by rw [g_62]; decide)) g_80 g_92))
              · have g_80 := cv_b1 h_80
                refine z_iconst (v := (-1)) C (by decide +kernel) dX5_write_83 ?_
                exact z_endI (hret _ _ dX5_write_84) (ri (mWr_2 (fun q => absurd q.2 (by rw [g_62]; decide)) g_80)) (rs (mWr_2 (fun q => absurd q.2 (by rw [g_62]; decide)) g_80))
            · have g_62 := cv_b1 h_62
              refine z_aload_n C rfl dX5_write_65 ?_
              refine z_iload_n C rfl dX5_write_66 ?_
              refine z_iload_n C rfl dX5_write_67 ?_
              refine z_iload_n C rfl dX5_write_68 ?_
              by_cases h8e : nQ y = 8
              · skip
                refine z_callV (As := [.int (nI j), .int (nI k), .int x]) (r := (some (.int ((-1))))) (σ1 := (κ, y, o)) (st := []) (st1 := [.int ((-1))]) C K ok_X5_132 (c_X5_enqueue_n l D n0 κ y o (nI j) (nI k) x ((hn : y 0 23 = nI (nQ y)).trans (by rw [h8e]))) enc_M (by decide) rfl rfl ⟨by decide, by decide⟩ ⟨Nat.zero_le _, Nat.zero_le _⟩ (by simp [Value.category]) dX5_write_69 rfl rfl ?_
                exact z_endI (hret _ _ dX5_write_72) (ri ((mWr_1 h_52 g_62).trans (mEn_e h8e))) (rs ((mWr_1 h_52 g_62).trans (mEn_e h8e)))
              · have h8n : ¬ nQ y = 8 := h8e
                refine z_callV (As := [.int (nI j), .int (nI k), .int x]) (r := (some (.int 3))) (σ1 := (κ, mEnq y (nQ y) (nI j) (nI k) x, o)) (st := []) (st1 := [.int 3]) C K ok_X5_132 (c_X5_enqueue l D n0 κ y o (nQ y) (nI j) (nI k) x hn (by omega)) enc_M (by decide) rfl rfl ⟨by decide, by decide⟩ ⟨Nat.zero_le _, Nat.zero_le _⟩ (by simp [Value.category]) dX5_write_69 rfl rfl ?_
                exact z_endI (hret _ _ dX5_write_72) (ri ((mWr_1 h_52 g_62).trans (mEn_l h8n))) (rs ((mWr_1 h_52 g_62).trans (mEn_l h8n)))
        · exact absurd h_37 (by decide +kernel)
      · have g_22 := cv_nlt (a := k) (b := 4 * z) (by omega) (by omega) h_22
        exact absurd g_22 (by omega)
