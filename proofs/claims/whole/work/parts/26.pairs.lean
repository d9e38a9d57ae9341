/-! a call of both sides: the same number, the same answer, and the two go on side by side -/
def PR (hw : Int32 → KH → Int64 → Prop) (hm : Nat → Nat → KH → Int64 → Int32 → KH → Prop) (t : Nat) : Prop :=
  ∃ (k b : Int32) (κ' μ' : KH) (o' : Int64) (f w : Nat), f ≤ 10 ∧ w ≤ 360 ∧ hw k κ' o' ∧ hm f w κ' o' b μ' ∧ μ' 0 0 = k ∧ (k = 0 → o' = b.toInt64) ∧ RO κ' μ' (t + 1)
theorem PR.thr {hw : Int32 → KH → Int64 → Prop} {hm : Nat → Nat → KH → Int64 → Int32 → KH → Prop} {κ μ : KH} {n q t : Nat} {o : Int64} {f w : Nat} (k : Int32) (hk : k ≠ 0) (h : RR κ μ n q t) (hW : hw k κ o) (hM : hm f w κ o 0 (up μ 0 0 k)) (hf : f ≤ 10) (hww : w ≤ 360) : PR hw hm t :=
  ⟨k, 0, κ, up μ 0 0 k, o, f, w, hf, hww, hW, hM, up_self, fun z => absurd z hk, ⟨n, q, (h.up0 k).mono (Nat.le_succ t)⟩⟩
theorem PR.ok {hw : Int32 → KH → Int64 → Prop} {hm : Nat → Nat → KH → Int64 → Int32 → KH → Prop} {κ' μ' : KH} {t t' : Nat} {r b : Int32} {f w : Nat} (hW : hw 0 κ' r.toInt64) (hM : hm f w κ' r.toInt64 b μ') (hf : f ≤ 10) (hww : w ≤ 360) (hb : r = b) (h0 : μ' 0 0 = 0) (hR : RO κ' μ' t') (ht : t' ≤ t + 1) : PR hw hm t :=
  ⟨0, b, κ', μ', r.toInt64, f, w, hf, hww, hW, hM, h0, fun _ => by rw [hb], hR.mono ht⟩
theorem mDr_00 : ∀ (q : Nat) (x : KH), mDr q x 0 0 = x 0 0
  | 0, x => by rw [mDr, up_ix (by decide)]
  | q + 1, x => by
    rw [mDr]
    split
    · rw [mDr_00 q, mUnq_0, if_neg (by decide), up_ix (by decide)]
    · split
      · rw [up_ix (by decide)]
      · rw [mDr_00 q, mUnq_0, if_neg (by decide), mPerf_0 _ _ _ _ _ (by decide) (by decide) (by decide)]
theorem mDrain_00 (x : KH) : mDrain x 0 0 = x 0 0 := by
  unfold mDrain
  split
  · exact mDr_00 _ _
  · rw [up_ix (by decide)]
theorem mDq_00 {j : Nat} : ∀ (f k : Nat) (x : KH), mDq j f k x 0 0 = x 0 0
  | 0, _, _ => rfl
  | f + 1, k, x => by
    rw [mDq]
    split
    · rw [mDq_00 f, mUnq_0, if_neg (by decide), up_ix (by decide)]
    · exact mDq_00 f _ _
theorem mEn_00 {y : KH} {a b x : Int32} : (mEn y a b x).1 0 0 = y 0 0 := by
  unfold mEn
  split
  · rfl
  · show mEnq y (nQ y) a b x 0 0 = _
    unfold mEnq
    rw [up_ix (by decide), up_cell (by decide), up_cell (by decide), up_cell (by decide)]
theorem mWm_00 {y : KH} : mWm y 0 0 = y 0 0 := by
  unfold mWm
  split
  · rw [up_ix (by decide), up_ix (by decide), up_ix (by decide)]
  · rfl
theorem mWr_00 {y : KH} {v w : Nat} {x : Int32} : (mWr y v w x).1 0 0 = y 0 0 := by
  unfold mWr
  split
  · exact mEn_00
  split
  · rfl
  split
  · show mPerf y v w x 0 0 = _
    exact mPerf_0 _ _ _ _ _ (by decide) (by decide) (by decide)
  split
  · rw [mEn_00]; exact mWm_00
  split
  · exact mWm_00
  · show mPerf (up y 0 16 0) v w x 0 0 = _
    rw [mPerf_0 _ _ _ _ _ (by decide) (by decide) (by decide), up_ix (by decide)]
theorem mTick_00 {y : KH} {s : Int32} : (mTick y s).1 0 0 = y 0 0 := by
  unfold mTick
  split
  · split
    · show up (up y 0 20 (y 0 20 + s)) 0 19 (y 0 19 + s) 0 0 = _
      rw [up_ix (by decide), up_ix (by decide)]
    · show up (up (up (up (up y 0 20 (y 0 20 + s)) 0 19 (y 0 19 + s)) 0 21 (y 0 21 + y 0 23)) 0 23 0) 0 16 2 0 0 = _
      rw [up_ix (by decide), up_ix (by decide), up_ix (by decide), up_ix (by decide), up_ix (by decide)]
  · show up (up y 0 20 (y 0 20 + s)) 0 19 (y 0 19 + 0) 0 0 = _
    rw [up_ix (by decide), up_ix (by decide)]
section BOTH
variable {κ μ : KH} {n q t : Nat}
theorem okC_iff (h : R3 κ μ n) (v : Int32) : okC κ v ↔ okV1 μ v := by
  constructor
  · rintro ⟨j, hj, e, h0⟩; exact ⟨j, hj, e, by rw [← live0 h.1.2 hj]; exact h0⟩
  · rintro ⟨j, hj, e, h0⟩; exact ⟨j, hj, e, by rw [live0 h.1.2 hj]; exact h0⟩
theorem hsz_of (h : R3 κ μ n) : ∀ i, i < 16 → μ 1 i ≠ 0 → ∃ z : Nat, z ≤ 40 ∧ μ 2 i = nI z := fun i hi h1 => by
  rw [← live0 h.1.2 hi] at h1
  obtain ⟨_, a2, _, _, _, z, b1, b2, _⟩ := live h.1.2 hi h1
  exact ⟨z, b1, by rw [← a2]; exact b2⟩
theorem h01_of (h : R3 κ μ n) : ∀ v, v < 16 → is01 (κ (1 + 2 + 2 * v) 0) ∧ is01 (κ (1 + 2 + 2 * v) 1) := fun v hv => ⟨(h.1.1.1 v hv).1, (h.1.1.1 v hv).2.1⟩
theorem h36_of (h : R3 κ μ n) : ∀ v, v < 16 → is01 (κ (36 + 2 + 2 * v) 0) ∧ is01 (κ (36 + 2 + 2 * v) 1) := fun v hv => ⟨(h.2.1.1.1 v hv).1, (h.2.1.1.1 v hv).2.1⟩
theorem vSiz_nI {s : Nat} (h1 : 1 ≤ s) (h2 : s ≤ 40) : vSiz (nI s) = true := by
  have a : ¬ nI s < 1 := nI_nlt (a := s) (b := 1) h1 (by omega)
  have b : ¬ (40 : Int32) < nI s := nI_nlt (a := 40) (b := s) h2 (by decide)
  simp [vSiz, a, b]
theorem live2 (h : R3 κ μ n) {j : Nat} (hj : j < 16) (h0 : κ (cVk j) 0 ≠ 0) : μ 1 j ≠ 0 ∧ ∃ z : Nat, z ≤ 40 ∧ κ (cVk j) 2 = nI z ∧ μ 2 j = nI z ∧ ∀ p, z ≤ p → p < 40 → κ (cVk j + 1) p = -1 := by
  obtain ⟨_, a2, _, _, _, z, b1, b2, b3⟩ := live h.1.2 hj h0
  exact ⟨by rw [← live0 h.1.2 hj]; exact h0, z, b1, b2, by rw [← a2]; exact b2, b3⟩
end BOTH
theorem left_eq {κ μ : KH} {t : Nat} (h : RN κ μ t) : (if κ 0 7 = 1 then κ 0 9 - κ 0 10 else 0) = (if μ 0 16 = 1 then μ 0 18 - μ 0 19 else 0) := by
  obtain ⟨a1, a2, a3, a4, a5, a6, a7, a8, T, b1, b2, b3⟩ := h
  by_cases hm : κ 0 7 = 1
  · obtain ⟨L, W, w1, w2, w3, w4, w5⟩ := b3 hm
    rw [if_pos hm, if_pos (a3.symm.trans hm), w5, b2, w3, w4, cv_sub (by omega), cv_sub (by omega)]
    congr 1
    omega
  · rw [if_neg hm, if_neg (by rw [← a3]; exact hm)]
/-- a call that never throws -/
def PB (hc : Nat → Nat → KH → Int32 → Prop) (hm : Nat → Nat → KH → Int32 → KH → Prop) (t : Nat) : Prop :=
  ∃ (r : Int32) (κ' μ' : KH) (f w f5 w5 : Nat), f ≤ 10 ∧ w ≤ 360 ∧ f5 ≤ 10 ∧ w5 ≤ 360 ∧ hc f w κ' r ∧ hm f5 w5 κ' r μ' ∧ RO κ' μ' (t + 1)
theorem PB.ok {hc : Nat → Nat → KH → Int32 → Prop} {hm : Nat → Nat → KH → Int32 → KH → Prop} {t t' : Nat} {r b : Int32} {κ' μ' : KH} {f w f5 w5 : Nat} (hC : hc f w κ' r) (hM : hm f5 w5 κ' b μ') (hb : r = b) (h1 : f ≤ 10) (h2 : w ≤ 360) (h3 : f5 ≤ 10) (h4 : w5 ≤ 360) (hR : RO κ' μ' t') (ht : t' ≤ t + 1) : PB hc hm t := by
  subst hb
  exact ⟨r, κ', μ', f, w, f5, w5, h1, h2, h3, h4, hC, hM, hR.mono ht⟩
set_option maxHeartbeats 1000000 in
theorem s_make {l : Launch} (hfl : l.stackTraces = false) (D : DD) (n0 : Nat) {κ μ : KH} {n q t : Nat} (h : RR κ μ n q t) (ht : t ≤ 1000) (o : Int64) (p0 p1 p2 : Int32) (hp : p2 = 0 ∨ p2 = 1) : PR (fun k κ' o' => HW l D n0 yL_make cL_make 6 [(0, 12, 15, 13), (0, 12, 19, 15), (0, 12, 23, 17)] [.ref (n0 + 0), .int p0, .int p1, .int p2, .ref (n0 + 126)] (κ, μ, o) k (κ', μ, o')) (fun f w κ' o' b μ' => HM l D n0 yX5_make cX5_make 5 (some .int) f w [.ref (n0 + 113), .int p0, .int p1, .int p2] (κ', μ, o') (some (.int b)) (κ', μ', o')) t := by
  have h3 := h.1
  have hP := h.2.1
  have hn := hP.2.2.2.1
  have hy := h.up0 0
  obtain ⟨hQ1, hQ2, hQ8, hQ4⟩ := h.2.2.2.1
  rcases vNum_or p0 with hv | ⟨j, hj, rfl⟩
  · exact PR.thr 1 (by decide +kernel) h (w_make_cIO l D n0 κ μ o _ _ _ _ _ (by decide) (by decide) (c_X4_make_1 l hfl D n0 κ μ o _ _ _ hv)) (c_X5_make_1 l D n0 _ μ _ _ _ _ hv) (by decide) (by decide)
  · by_cases hs : vSiz p1 = true
    · obtain ⟨z, z1, z2, rfl⟩ := vSiz_of hs
      have l0 := live0 h3.1.2 hj
      by_cases h0 : κ (cVk j) 0 = 0
      · have hR := RR_make hy hj h0 z2 hp
        have hc : κ 1 1 + 1 = nI (mVol (mMake (up μ 0 0 0) j (nI z) p2) 0) := by
          rw [vol_eq hR.1.1.2]
          have := hR.1.1.1.2.2
          rwa [cAdd_b1] at this
        exact PR.ok (w_make_ok l D n0 κ μ o _ _ _ _ _ (by decide) (by decide) _ _ (c_X4_make l D n0 κ μ o j z p2 hj z1 z2 hp h0)) (c_X5_make l D n0 _ μ _ j _ _ hj hs hp (by rw [← l0]; exact h0) _ rfl) (by decide) (by decide) hc (by rw [mMk_o (by decide), mMk0_o (by omega), up_self]) ⟨n, q, hR⟩ (Nat.le_succ t)
      · exact PR.thr 3 (by decide +kernel) h (w_make_cIS l D n0 κ μ o _ _ _ _ _ (by decide) (by decide) (c_X4_make_3 l hfl D n0 κ μ o j z p2 hj z1 z2 h0)) (c_X5_make_3 l D n0 _ μ _ j _ _ hj hs (by rw [← l0]; exact h0)) (by decide) (by decide)
    · have hs2 : vSiz p1 = false := by simpa using hs
      exact PR.thr 2 (by decide +kernel) h (w_make_cIA l D n0 κ μ o _ _ _ _ _ (by decide) (by decide) (c_X4_make_2 l hfl D n0 κ μ o j _ _ hj hs2)) (c_X5_make_2 l D n0 _ μ _ _ _ _ (vNum_nI hj) hs2) (by decide) (by decide)
set_option maxHeartbeats 1000000 in
theorem s_snap {l : Launch} (hfl : l.stackTraces = false) (D : DD) (n0 : Nat) {κ μ : KH} {n q t : Nat} (h : RR κ μ n q t) (ht : t ≤ 1000) (o : Int64) (p0 p1 : Int32) : PR (fun k κ' o' => HW l D n0 yL_snap cL_snap 5 [(0, 10, 13, 13), (0, 10, 17, 17)] [.ref (n0 + 0), .int p0, .int p1, .ref (n0 + 126)] (κ, μ, o) k (κ', μ, o')) (fun f w κ' o' b μ' => HM l D n0 yX5_snap cX5_snap 3 (some .int) f w [.ref (n0 + 113), .int p0, .int p1] (κ', μ, o') (some (.int b)) (κ', μ', o')) t := by
  have h3 := h.1
  have hP := h.2.1
  have hn := hP.2.2.2.1
  have hy := h.up0 0
  obtain ⟨hQ1, hQ2, hQ8, hQ4⟩ := h.2.2.2.1
  rcases vNum_or p1 with hv | ⟨j, hj, rfl⟩
  · exact PR.thr 1 (by decide +kernel) h (w_snap_cIO l D n0 κ μ o _ _ _ _ (by decide) (by decide) (c_X4_snap_1 l hfl D n0 κ μ o _ _ hv)) (c_X5_snap_1 l D n0 _ μ _ _ _ (fun z => absurd z.1 (by rw [hv]; decide))) (by decide) (by decide)
  · by_cases hb : okC κ p0
    · obtain ⟨i, hi, rfl, h1⟩ := hb
      have l1 := live0 h3.1.2 hi
      have l0 := live0 h3.1.2 hj
      by_cases h0 : κ (cVk j) 0 = 0
      · have hR := RR_snap hy hi hj h1 h0
        have hmm : μ 1 i ≠ 0 := by rw [← l1]; exact h1
        have h0c : cSnap κ i j (cVk j) 0 ≠ 0 := by
          have := (MVl hR.1 hj).1
          rw [this]
          unfold mSnap
          rw [up_cell (by decide), mCpV_c (by decide) (by decide), if_pos (by omega), show 16 * 0 + i = i by omega, up_cell (by decide)]
          exact hmm
        have hc : cSnap κ i j (cVk j) 5 = nI (mMap (mSnap (up μ 0 0 0) i j) j) := by
          rw [map_eq hR.1 hj h0c]; exact (CIv hR.1.1.1 hj).2.2.1
        exact PR.ok (w_snap_ok l D n0 κ μ o _ _ _ _ (by decide) (by decide) _ _ (c_X4_snap l D n0 κ μ o i j hi hj h1 h0 ((CIv h3.1.1 hi).2.1) (fun k hk x => h3.aX hk x))) (c_X5_snap l D n0 _ μ _ i j hi hj hmm (by rw [← l0]; exact h0) _ rfl hy.2.2.2.2.2.2.2) (by decide) (by decide) hc (by unfold mSnap; rw [up_cell (by decide), mCpV_o (by omega), up_self]) ⟨n, q, hR⟩ (Nat.le_succ t)
      · exact PR.thr 2 (by decide +kernel) h (w_snap_cIS l D n0 κ μ o _ _ _ _ (by decide) (by decide) (c_X4_snap_3 l hfl D n0 κ μ o i j hi hj h1 h0)) (c_X5_snap_2 l D n0 _ μ _ i j hi hj (by rw [← l1]; exact h1) (by rw [← l0]; exact h0)) (by decide) (by decide)
    · have hbm : ¬ okV1 μ p0 := fun z => hb ((okC_iff h3 p0).mpr z)
      exact PR.thr 1 (by decide +kernel) h (w_snap_cIO l D n0 κ μ o _ _ _ _ (by decide) (by decide) (c_X4_snap_2 l hfl D n0 κ μ o _ j hj hb)) (c_X5_snap_1 l D n0 _ μ _ _ _ (fun z => hbm z.2)) (by decide) (by decide)
set_option maxHeartbeats 1000000 in
theorem s_drop {l : Launch} (hfl : l.stackTraces = false) (D : DD) (n0 : Nat) {κ μ : KH} {n q t : Nat} (h : RR κ μ n q t) (ht : t ≤ 1000) (o : Int64) (p0 : Int32) : PR (fun k κ' o' => HW l D n0 yL_drop cL_drop 4 [(0, 9, 12, 13)] [.ref (n0 + 0), .int p0, .ref (n0 + 126)] (κ, μ, o) k (κ', μ, o')) (fun f w κ' o' b μ' => HM l D n0 yX5_drop cX5_drop 4 (some .int) f w [.ref (n0 + 113), .int p0] (κ', μ, o') (some (.int b)) (κ', μ', o')) t := by
  have h3 := h.1
  have hP := h.2.1
  have hn := hP.2.2.2.1
  have hy := h.up0 0
  obtain ⟨hQ1, hQ2, hQ8, hQ4⟩ := h.2.2.2.1
  by_cases hb : okC κ p0
  · obtain ⟨j, hj, rfl, h0⟩ := hb
    obtain ⟨h1, z, hz40, hz, hzm, hze⟩ := live2 h3 hj h0
    have hR := RR_drop hy hj h0
    have hS := sim_serve hR.1
    exact PR.ok (w_drop_ok l D n0 κ μ o _ _ _ (by decide) (by decide) _ _ (c_X4_drop l D n0 κ μ o j hj h0 q hQ1 hQ8 (fun x => h3.aX (isVk hj) x) hR.1.cDs)) (c_X5_drop l D n0 _ μ _ j hj h1 _ rfl hy.mDs (by rw [hy.qs.2]; exact hR.1.mDs)) (by decide) (by decide) hR.2 (by rw [mDrain_00, up_cell (by decide), mDq_00, up_self]) (by rw [hy.qs.2]; exact hS) (Nat.le_succ t)
  · have hbm : ¬ okV1 μ p0 := fun z => hb ((okC_iff h3 p0).mpr z)
    exact PR.thr 1 (by decide +kernel) h (w_drop_cIO l D n0 κ μ o _ _ _ (by decide) (by decide) (c_X4_drop_1 l hfl D n0 κ μ o _ hb)) (c_X5_drop_1 l D n0 _ μ _ _ hbm) (by decide) (by decide)
set_option maxHeartbeats 1000000 in
theorem s_resize {l : Launch} (hfl : l.stackTraces = false) (D : DD) (n0 : Nat) {κ μ : KH} {n q t : Nat} (h : RR κ μ n q t) (ht : t ≤ 1000) (o : Int64) (p0 p1 : Int32) : PR (fun k κ' o' => HW l D n0 yL_resize cL_resize 5 [(0, 10, 13, 13), (0, 10, 17, 15), (0, 10, 21, 17)] [.ref (n0 + 0), .int p0, .int p1, .ref (n0 + 126)] (κ, μ, o) k (κ', μ, o')) (fun f w κ' o' b μ' => HM l D n0 yX5_resize cX5_resize 4 (some .int) f w [.ref (n0 + 113), .int p0, .int p1] (κ', μ, o') (some (.int b)) (κ', μ', o')) t := by
  have h3 := h.1
  have hP := h.2.1
  have hn := hP.2.2.2.1
  have hy := h.up0 0
  obtain ⟨hQ1, hQ2, hQ8, hQ4⟩ := h.2.2.2.1
  by_cases hb : okC κ p0
  · obtain ⟨j, hj, rfl, h0⟩ := hb
    obtain ⟨h1, z, hz40, hz, hzm, hze⟩ := live2 h3 hj h0
    by_cases hs : vSiz p1 = true
    · obtain ⟨s, s1, s2, rfl⟩ := vSiz_of hs
      have hwe : cWt κ q (nI j) (nI s) 40 = mWIn μ q j s (z - s) := win_eq h (a := s) (b := z) (c := 40) (by omega) (by omega) (by decide) (fun k hk hv w hw hw2 => by
        obtain ⟨v', w', z', a1, a2, a3, a4, a5, a6, a7⟩ := h.2.2.2.2.1 k hk
        have e1 : v' = j := cv_eq (by omega) (by omega) (a2.symm.trans hv)
        have e2 : w' = w := cv_eq (by omega) (by omega) (a4.symm.trans hw)
        subst e1; subst e2
        have e3 : z' = z := cv_eq (by omega) (by omega) (a5.symm.trans hz)
        omega)
      by_cases hw : cWt κ q (nI j) (nI s) 40 = true
      · exact PR.thr 3 (by decide +kernel) h (w_resize_cIS l D n0 κ μ o _ _ _ _ (by decide) (by decide) (c_X4_resize_3 l hfl D n0 κ μ o j s hj h0 s1 s2 q hQ1 hQ8 hw)) (c_X5_resize_3 l D n0 _ μ _ j s z q hj h1 hs s2 hzm hz40 hQ2 hQ8 (by rw [← hwe]; exact hw)) (by decide) (by decide)
      · have hw2 : cWt κ q (nI j) (nI s) 40 = false := by simpa using hw
        have hq9 : ∀ k, k < q → κ 109 k = nI j → ∀ w, κ 110 k = nI w → w < 160 → w / 4 < s := fun k hk hv w hww hw160 => Nat.not_le.mp fun hsw => hw (by
          refine (anyTo_iff q).mpr ⟨k, hk, ?_⟩
          have hc1 := cW1_n (κ := κ) (v := nI j) (a := s) (b := 40) hww hw160 (by omega) (by decide)
          refine hc1.trans ?_
          rw [Bool.and_eq_true, decide_eq_true_eq, decide_eq_true_eq]
          exact ⟨hv, hsw, by omega⟩)
        have hR := RR_rsz hy hj h0 hz hz40 s2 hq9
        have hc := um_cnt (a := s) (b := z) (c := 40) hy.1 hn hj h0 s2 (Nat.le_refl _) hz40 (fun p a b => hze p a b)
        exact PR.ok (w_resize_ok l D n0 κ μ o _ _ _ _ (by decide) (by decide) _ _ (c_X4_resize l D n0 κ μ o j s hj h0 s1 s2 q hQ1 hQ8 hw2 (fun x => h3.aX (isVk hj) x) hR.cDs)) (c_X5_resize l D n0 _ μ _ j s z q hj h1 hs s2 hzm hz40 hQ2 hQ8 (by rw [← hwe]; exact hw2) _ rfl (by rw [up_cell (by decide)]; exact hzm) hR.mDs) (by decide) (by decide) hc (by rw [mDrain_00, up_cell (by decide), mUnm_o (by decide), up_self]) (sim_serve hR) (Nat.le_succ t)
    · have hs2 : vSiz p1 = false := by simpa using hs
      exact PR.thr 2 (by decide +kernel) h (w_resize_cIA l D n0 κ μ o _ _ _ _ (by decide) (by decide) (c_X4_resize_2 l hfl D n0 κ μ o j _ hj h0 hs2)) (c_X5_resize_2 l D n0 _ μ _ j _ hj h1 hs2) (by decide) (by decide)
  · have hbm : ¬ okV1 μ p0 := fun z => hb ((okC_iff h3 p0).mpr z)
    exact PR.thr 1 (by decide +kernel) h (w_resize_cIO l D n0 κ μ o _ _ _ _ (by decide) (by decide) (c_X4_resize_1 l hfl D n0 κ μ o _ _ hb)) (c_X5_resize_1 l D n0 _ μ _ _ _ hbm) (by decide) (by decide)
set_option maxHeartbeats 1000000 in
theorem s_write {l : Launch} (hfl : l.stackTraces = false) (D : DD) (n0 : Nat) {κ μ : KH} {n q t : Nat} (h : RR κ μ n q t) (ht : t ≤ 1000) (o : Int64) (p0 p1 p2 : Int32) : PR (fun k κ' o' => HW l D n0 yL_write cL_write 6 [(0, 12, 15, 13)] [.ref (n0 + 0), .int p0, .int p1, .int p2, .ref (n0 + 126)] (κ, μ, o) k (κ', μ, o')) (fun f w κ' o' b μ' => HM l D n0 yX5_write cX5_write 6 (some .int) f w [.ref (n0 + 113), .int p0, .int p1, .int p2] (κ', μ, o') (some (.int b)) (κ', μ', o')) t := by
  have h3 := h.1
  have hP := h.2.1
  have hn := hP.2.2.2.1
  have hy := h.up0 0
  obtain ⟨hQ1, hQ2, hQ8, hQ4⟩ := h.2.2.2.1
  by_cases hb : okC κ p0
  · obtain ⟨j, hj, rfl, h0⟩ := hb
    obtain ⟨h1, z, hz40, hz, hzm, hze⟩ := live2 h3 hj h0
    by_cases hwb : ∃ c : Nat, p1 = nI c ∧ c < 4 * z
    · obtain ⟨w, rfl, hw⟩ := hwb
      have hs := sim_write (x := p2) hy hj h0 hz hz40 hw
      exact PR.ok (w_write_ok l D n0 κ μ o _ _ _ _ _ (by decide) (by decide) _ _ (c_X4_write l D n0 κ μ o j w p2 hj h0 z hz hz40 hw (hP.cJ h3) q hQ1 hQ8)) (c_X5_write l D n0 _ μ _ j w z hj h1 hzm hz40 hw p2 _ rfl (hy.2.1.mJ hy.2.2.2.2.2.2.1) (by rw [hy.qs.2]; exact hy.2.2.2.1.2.1) (by rw [hy.qs.2]; exact hQ8)) (by decide) (by decide) hs.2 (by rw [mWr_00, up_self]) hs.1 (Nat.le_succ t)
    · have hbad : ¬ okW μ (nI j) p1 := fun ⟨j2, k2, z2, a1, a2, a3, a4, a5, a6, a7⟩ => hwb ⟨k2, a6, by
        have e1 : j = j2 := cv_eq (by omega) (by omega) a2
        subst e1
        have e2 : z2 = z := cv_eq (by omega) (by omega) (a5.symm.trans hzm)
        omega⟩
      exact PR.thr 1 (by decide +kernel) h (w_write_cIO l D n0 κ μ o _ _ _ _ _ (by decide) (by decide) (c_X4_write_2 l hfl D n0 κ μ o j p1 p2 hj h0 z hz hz40 hwb)) (c_X5_write_bad l D n0 _ μ _ _ _ p2 hbad (hsz_of h3)) (by decide) (by decide)
  · have hbad : ¬ okW μ p0 p1 := fun ⟨j2, k2, z2, a1, a2, a3, _⟩ => hb ((okC_iff h3 p0).mpr ⟨j2, a1, a2, a3⟩)
    exact PR.thr 1 (by decide +kernel) h (w_write_cIO l D n0 κ μ o _ _ _ _ _ (by decide) (by decide) (c_X4_write_1 l hfl D n0 κ μ o _ _ p2 hb)) (c_X5_write_bad l D n0 _ μ _ _ _ p2 hbad (hsz_of h3)) (by decide) (by decide)
set_option maxHeartbeats 1000000 in
theorem s_read {l : Launch} (hfl : l.stackTraces = false) (D : DD) (n0 : Nat) {κ μ : KH} {n q t : Nat} (h : RR κ μ n q t) (ht : t ≤ 1000) (o : Int64) (p0 p1 : Int32) : PR (fun k κ' o' => HW l D n0 yL_read cL_read 5 [(0, 10, 13, 13)] [.ref (n0 + 0), .int p0, .int p1, .ref (n0 + 126)] (κ, μ, o) k (κ', μ, o')) (fun f w κ' o' b μ' => HM l D n0 yX5_read cX5_read 3 (some .int) f w [.ref (n0 + 113), .int p0, .int p1] (κ', μ, o') (some (.int b)) (κ', μ', o')) t := by
  have h3 := h.1
  have hP := h.2.1
  have hn := hP.2.2.2.1
  have hy := h.up0 0
  obtain ⟨hQ1, hQ2, hQ8, hQ4⟩ := h.2.2.2.1
  by_cases hb : okC κ p0
  · obtain ⟨j, hj, rfl, h0⟩ := hb
    obtain ⟨h1, z, hz40, hz, hzm, hze⟩ := live2 h3 hj h0
    by_cases hwb : ∃ c : Nat, p1 = nI c ∧ c < 4 * z
    · obtain ⟨w, rfl, hw⟩ := hwb
      have hr := read_eq (z := z) hy hj h0 (show w < 160 by omega)
      exact PR.ok (w_read_ok l D n0 κ μ o _ _ _ _ (by decide) (by decide) _ _ (c_X4_read l D n0 κ μ o j w hj h0 z hz hz40 hw (fun x => h3.aX (isVk hj) x))) (c_X5_read l D n0 _ μ _ j w z hj h1 hzm hz40 hw _ rfl (hy.2.2.2.2.2.2.1 _)) (by decide) (by decide) hr up_self ⟨n, q, hy⟩ (Nat.le_succ t)
    · have hbad : ¬ okW μ (nI j) p1 := fun ⟨j2, k2, z2, a1, a2, a3, a4, a5, a6, a7⟩ => hwb ⟨k2, a6, by
        have e1 : j = j2 := cv_eq (by omega) (by omega) a2
        subst e1
        have e2 : z2 = z := cv_eq (by omega) (by omega) (a5.symm.trans hzm)
        omega⟩
      exact PR.thr 1 (by decide +kernel) h (w_read_cIO l D n0 κ μ o _ _ _ _ (by decide) (by decide) (c_X4_read_2 l hfl D n0 κ μ o j p1 hj h0 z hz hz40 hwb)) (c_X5_read_bad l D n0 _ μ _ _ _ hbad (hsz_of h3)) (by decide) (by decide)
  · have hbad : ¬ okW μ p0 p1 := fun ⟨j2, k2, z2, a1, a2, a3, _⟩ => hb ((okC_iff h3 p0).mpr ⟨j2, a1, a2, a3⟩)
    exact PR.thr 1 (by decide +kernel) h (w_read_cIO l D n0 κ μ o _ _ _ _ (by decide) (by decide) (c_X4_read_1 l hfl D n0 κ μ o _ _ hb)) (c_X5_read_bad l D n0 _ μ _ _ _ hbad (hsz_of h3)) (by decide) (by decide)
set_option maxHeartbeats 1000000 in
theorem s_discard {l : Launch} (hfl : l.stackTraces = false) (D : DD) (n0 : Nat) {κ μ : KH} {n q t : Nat} (h : RR κ μ n q t) (ht : t ≤ 1000) (o : Int64) (p0 p1 p2 : Int32) : PR (fun k κ' o' => HW l D n0 yL_discard cL_discard 6 [(0, 12, 15, 13), (0, 12, 19, 17)] [.ref (n0 + 0), .int p0, .int p1, .int p2, .ref (n0 + 126)] (κ, μ, o) k (κ', μ, o')) (fun f w κ' o' b μ' => HM l D n0 yX5_discard cX5_discard 5 (some .int) f w [.ref (n0 + 113), .int p0, .int p1, .int p2] (κ', μ, o') (some (.int b)) (κ', μ', o')) t := by
  have h3 := h.1
  have hP := h.2.1
  have hn := hP.2.2.2.1
  have hy := h.up0 0
  obtain ⟨hQ1, hQ2, hQ8, hQ4⟩ := h.2.2.2.1
  by_cases hb : okC κ p0
  · obtain ⟨j, hj, rfl, h0⟩ := hb
    obtain ⟨h1, z, hz40, hz, hzm, hze⟩ := live2 h3 hj h0
    by_cases hd : okCD κ j p1 p2
    · obtain ⟨p, c, z2, a1, a2, rfl, rfl, a5⟩ := hd
      have e2 : z2 = z := cv_eq (by omega) (by omega) (a2.symm.trans hz)
      subst e2
      have hwe : cWt κ q (nI j) (nI p) (nI (p + c)) = mWIn μ q j p (p + c - p) := win_eq h (a := p) (b := p + c) (c := p + c) (by omega) (by omega) (by omega) (fun _ _ _ _ _ _ => Iff.rfl)
      by_cases hw : cWt κ q (nI j) (nI p) (nI (p + c)) = true
      · exact PR.thr 2 (by decide +kernel) h (w_discard_cIS l D n0 κ μ o _ _ _ _ _ (by decide) (by decide) (c_X4_discard_3 l hfl D n0 κ μ o j p c hj h0 z2 hz hz40 a5 q hQ1 hQ8 hw)) (c_X5_discard_2 l D n0 _ μ _ j p c z2 q hj h1 hzm hz40 a5 hQ2 hQ8 (by rw [← hwe]; exact hw)) (by decide) (by decide)
      · have hw2 : cWt κ q (nI j) (nI p) (nI (p + c)) = false := by simpa using hw
        have hR := RR_unm (a := p) (c := p + c) hy hj (by omega) (by omega)
        have hc := um_cnt (a := p) (b := p + c) (c := p + c) hy.1 hn hj h0 (by omega) (by omega) (Nat.le_refl _) (fun x a b => absurd b (by omega))
        exact PR.ok (w_discard_ok l D n0 κ μ o _ _ _ _ _ (by decide) (by decide) _ _ (c_X4_discard l D n0 κ μ o j p c hj h0 z2 hz hz40 a5 q hQ1 hQ8 hw2 (fun x => h3.aX (isVk hj) x) hR.cDs)) (c_X5_discard l D n0 _ μ _ j p c z2 q hj h1 hzm hz40 a5 hQ2 hQ8 (by rw [← hwe]; exact hw2) _ rfl hR.mDs) (by decide) (by decide) hc (by rw [mDrain_00, mUnm_o (by decide), up_self]) (sim_serve hR) (Nat.le_succ t)
    · have hbad : ¬ okD μ (nI j) p1 p2 := fun ⟨j2, p, c, z2, a1, a2, a3, a4, a5, a6, a7, a8⟩ => hd ⟨p, c, z, hz40, hz, a6, a7, by
        have e1 : j = j2 := cv_eq (by omega) (by omega) a2
        subst e1
        have e2 : z2 = z := cv_eq (by omega) (by omega) (a5.symm.trans hzm)
        omega⟩
      exact PR.thr 1 (by decide +kernel) h (w_discard_cIO l D n0 κ μ o _ _ _ _ _ (by decide) (by decide) (c_X4_discard_2 l hfl D n0 κ μ o j _ _ hj h0 z hz hz40 hd)) (c_X5_discard_1 l D n0 _ μ _ _ _ _ hbad (hsz_of h3)) (by decide) (by decide)
  · have hbad : ¬ okD μ p0 p1 p2 := fun ⟨j2, p, c, z2, a1, a2, a3, _⟩ => hb ((okC_iff h3 p0).mpr ⟨j2, a1, a2, a3⟩)
    exact PR.thr 1 (by decide +kernel) h (w_discard_cIO l D n0 κ μ o _ _ _ _ _ (by decide) (by decide) (c_X4_discard_1 l hfl D n0 κ μ o _ _ _ hb)) (c_X5_discard_1 l D n0 _ μ _ _ _ _ hbad (hsz_of h3)) (by decide) (by decide)
set_option maxHeartbeats 1000000 in
theorem s_grow {l : Launch} (hfl : l.stackTraces = false) (D : DD) (n0 : Nat) {κ μ : KH} {n q t : Nat} (h : RR κ μ n q t) (ht : t ≤ 1000) (o : Int64) (p0 : Int32) : PR (fun k κ' o' => HW l D n0 yL_grow cL_grow 4 [(0, 9, 12, 15)] [.ref (n0 + 0), .int p0, .ref (n0 + 126)] (κ, μ, o) k (κ', μ, o')) (fun f w κ' o' b μ' => HM l D n0 yX5_grow cX5_grow 2 (some .int) f w [.ref (n0 + 113), .int p0] (κ', μ, o') (some (.int b)) (κ', μ', o')) t := by
  have h3 := h.1
  have hP := h.2.1
  have hn := hP.2.2.2.1
  have hy := h.up0 0
  obtain ⟨hQ1, hQ2, hQ8, hQ4⟩ := h.2.2.2.1
  by_cases hc : p0 < 0
  · exact PR.thr 1 (by decide +kernel) h (w_grow_cIA l D n0 κ μ o _ _ _ (by decide) (by decide) (c_X4_grow_1 l hfl D n0 κ μ o _ hc)) (c_X5_grow_1 l D n0 _ μ _ _ hc) (by decide) (by decide)
  · obtain ⟨c, hc31, rfl⟩ := nI_of hc
    have eN : nE (up μ 0 0 0) = n := hy.2.1.nEe
    by_cases hb : n + c ≤ 96
    · have hR := RR_grow hy hb
      have hS := sim_serve hR
      have hMd : mD (up (up μ 0 0 0) 0 9 (nI (nE (up μ 0 0 0) + c))) (nQ (up (up μ 0 0 0) 0 9 (nI (nE (up μ 0 0 0) + c)))) := by rw [eN]; exact hR.mDs
      have hb2 : cServe (up κ 106 0 (nI (n + c))) 106 0 = mDrain (up (up μ 0 0 0) 0 9 (nI (nE (up μ 0 0 0) + c))) 0 9 := by
        obtain ⟨n2, q2, hh⟩ := hS
        rw [eN, hh.2.1.1, hh.2.1.2.1]
      exact PR.ok (w_grow_ok l D n0 κ μ o _ _ _ (by decide) (by decide) _ _ (c_X4_grow l D n0 κ μ o c n hP.1 hn hb hR.cDs)) (c_X5_grow l D n0 _ μ _ c _ rfl (by rw [eN]; exact hy.2.1.2.1) (by rw [eN]; omega) (by rw [eN]; exact hb) hMd) (by decide) (by decide) hb2 (by rw [mDrain_00, up_ix (by decide), up_self]) (by rw [eN]; exact hS) (Nat.le_succ t)
    · exact PR.ok (w_grow_ok l D n0 κ μ o _ _ _ (by decide) (by decide) _ _ (c_X4_grow_n l D n0 κ μ o c hc31 n hP.1 hn (by omega))) (c_X5_grow_n l D n0 _ μ _ c hc31 _ rfl (by rw [eN]; exact hy.2.1.2.1) (by rw [eN]; omega) (by rw [eN]; omega)) (by decide) (by decide) rfl up_self ⟨n, q, hy⟩ (Nat.le_succ t)
set_option maxHeartbeats 1000000 in
theorem s_shrink {l : Launch} (hfl : l.stackTraces = false) (D : DD) (n0 : Nat) {κ μ : KH} {n q t : Nat} (h : RR κ μ n q t) (ht : t ≤ 1000) (o : Int64) (p0 : Int32) : PR (fun k κ' o' => HW l D n0 yL_shrink cL_shrink 4 [(0, 9, 12, 15)] [.ref (n0 + 0), .int p0, .ref (n0 + 126)] (κ, μ, o) k (κ', μ, o')) (fun f w κ' o' b μ' => HM l D n0 yX5_shrink cX5_shrink 3 (some .int) f w [.ref (n0 + 113), .int p0] (κ', μ, o') (some (.int b)) (κ', μ', o')) t := by
  have h3 := h.1
  have hP := h.2.1
  have hn := hP.2.2.2.1
  have hy := h.up0 0
  obtain ⟨hQ1, hQ2, hQ8, hQ4⟩ := h.2.2.2.1
  by_cases hc : p0 < 0
  · exact PR.thr 1 (by decide +kernel) h (w_shrink_cIA l D n0 κ μ o _ _ _ (by decide) (by decide) (c_X4_shrink_1 l hfl D n0 κ μ o _ hc)) (c_X5_shrink_1 l D n0 _ μ _ _ hc) (by decide) (by decide)
  · obtain ⟨c, hc31, rfl⟩ := nI_of hc
    have eN : nE (up μ 0 0 0) = n := hy.2.1.nEe
    have hE := hy.2.1.2.1
    have hfe : ∀ i, i < c → c < n → cFree κ (n - c + i) = mFree (up μ 0 0 0) (nI (n - c + i)) := fun i hi hcn => free_eq hy.1 (by omega)
    by_cases hb : c < n
    · obtain ⟨cu, cu1, cu2, cu3⟩ := hy.2.1.2.2.2.2.1
      by_cases hfr : ∀ i, i < c → cFree κ (n - c + i) = true
      · have hR := RR_shrink hy hb hfr
        exact PR.ok (w_shrink_ok l D n0 κ μ o _ _ _ (by decide) (by decide) _ _ (c_X4_shrink l D n0 κ μ o c n hP.1 hn hb hfr (by rw [cu2, tn_nI (by omega)]) (by rw [cu2, tn_nI (by omega)]; omega))) (c_X5_shrink l D n0 _ μ _ c _ rfl (by rw [eN]; exact hE) (by rw [eN]; omega) (by rw [eN]; exact hb) (fun i hi => by rw [eN, ← hfe i hi hb]; exact hfr i hi) (by rw [cu3, tn_nI (by omega)]) (by rw [cu3, tn_nI (by omega)]; omega)) (by decide) (by decide) (by rw [eN]) (by rw [up_ix (by decide), up_ix (by decide), up_self]) (by rw [eN]; exact ⟨n - c, q, hR⟩) (Nat.le_succ t)
      · obtain ⟨i0, ⟨hi0, hnf⟩, hlt⟩ := pk_least (fun i => i < c ∧ cFree κ (n - c + i) = false) (Classical.not_not.mp fun hno => hfr fun i hi => by
          cases hh : cFree κ (n - c + i)
          · exact absurd ⟨i, hi, hh⟩ hno
          · rfl)
        have hl2 : ∀ i, i < i0 → cFree κ (n - c + i) = true := fun i hi => by
          cases hh : cFree κ (n - c + i)
          · exact absurd ⟨by omega, hh⟩ (hlt i hi)
          · rfl
        exact PR.ok (w_shrink_ok l D n0 κ μ o _ _ _ (by decide) (by decide) _ _ (c_X4_shrink_m l D n0 κ μ o c n hP.1 hn hb i0 hi0 hl2 hnf)) (c_X5_shrink_m l D n0 _ μ _ c _ rfl (by rw [eN]; exact hE) (by rw [eN]; omega) (by rw [eN]; exact hb) i0 hi0 (fun i hi => by rw [eN, ← hfe i (by omega) hb]; exact hl2 i hi) (by rw [eN, ← hfe i0 hi0 hb]; exact hnf)) (by decide) (by decide) rfl up_self ⟨n, q, hy⟩ (Nat.le_succ t)
    · exact PR.ok (w_shrink_ok l D n0 κ μ o _ _ _ (by decide) (by decide) _ _ (c_X4_shrink_n l D n0 κ μ o c hc31 n hP.1 hn (by omega))) (c_X5_shrink_n l D n0 _ μ _ c hc31 _ rfl (by rw [eN]; exact hE) (by rw [eN]; omega) (by rw [eN]; omega)) (by decide) (by decide) rfl up_self ⟨n, q, hy⟩ (Nat.le_succ t)
set_option maxHeartbeats 1000000 in
theorem s_back {l : Launch} (hfl : l.stackTraces = false) (D : DD) (n0 : Nat) {κ μ : KH} {n q t : Nat} (h : RR κ μ n q t) (ht : t ≤ 1000) (o : Int64) (p0 p1 : Int32) : PR (fun k κ' o' => HW l D n0 yL_back cL_back 5 [(0, 10, 13, 13), (0, 10, 17, 17)] [.ref (n0 + 0), .int p0, .int p1, .ref (n0 + 126)] (κ, μ, o) k (κ', μ, o')) (fun f w κ' o' b μ' => HM l D n0 yX5_back cX5_back 4 (some .int) f w [.ref (n0 + 113), .int p0, .int p1] (κ', μ, o') (some (.int b)) (κ', μ', o')) t := by
  have h3 := h.1
  have hP := h.2.1
  have hn := hP.2.2.2.1
  have hy := h.up0 0
  obtain ⟨hQ1, hQ2, hQ8, hQ4⟩ := h.2.2.2.1
  by_cases hw : ∃ c : Nat, p0 = nI c ∧ c < 160
  · obtain ⟨w, rfl, hw⟩ := hw
    by_cases hb : (cHB κ 1 || cHB κ 36 || cHB κ 71) = true
    · obtain ⟨i0, ⟨hi0, g1, g3⟩, hlt⟩ := pk_least (fun i => i < 48 ∧ (up μ 0 0 0) 1 i ≠ 0 ∧ (up μ 0 0 0) 3 i ≠ 0) ((hb3_iff hy.1).mp hb)
      have hno : ∀ i, i < i0 → (up μ 0 0 0) 1 i = 0 ∨ (up μ 0 0 0) 3 i = 0 := fun i hi => by
        by_cases z1 : (up μ 0 0 0) 1 i = 0
        · exact Or.inl z1
        · by_cases z3 : (up μ 0 0 0) 3 i = 0
          · exact Or.inr z3
          · exact absurd ⟨by omega, z1, z3⟩ (hlt i hi)
      have hM := c_X5_back_2 l D n0 κ μ o w p1 hw _ rfl i0 hi0 hno g1 g3
      rw [up2] at hM
      exact PR.thr 2 (by decide +kernel) h (w_back_cIS l D n0 κ μ o _ _ _ _ (by decide) (by decide) (c_X4_back_2 l hfl D n0 κ μ o w p1 hw hb)) (hM) (by decide) (by decide)
    · have hb2 : (cHB κ 1 || cHB κ 36 || cHB κ 71) = false := by simpa using hb
      have hno : ∀ i, i < 48 → (up μ 0 0 0) 1 i = 0 ∨ (up μ 0 0 0) 3 i = 0 := fun i hi => by
        by_cases z1 : (up μ 0 0 0) 1 i = 0
        · exact Or.inl z1
        · by_cases z3 : (up μ 0 0 0) 3 i = 0
          · exact Or.inr z3
          · exact absurd ((hb3_iff hy.1).mpr ⟨i, hi, z1, z3⟩) hb
      exact PR.ok (w_back_ok l D n0 κ μ o _ _ _ _ (by decide) (by decide) _ _ (c_X4_back l D n0 κ μ o w p1 hw hb2)) (c_X5_back l D n0 _ μ _ w p1 hw _ rfl hno) (by decide) (by decide) (hy.2.2.1.2 w hw) (by rw [up_cell (by decide), up_self]) ⟨n, q, RR_back hy⟩ (Nat.le_succ t)
  · have hb : p0 < 0 ∨ 159 < p0 := by
      by_cases z0 : p0 < 0
      · exact Or.inl z0
      · obtain ⟨c, hc, rfl⟩ := nI_of z0
        exact Or.inr (nI_lt (a := 159) (b := c) (Nat.not_le.mp fun z => hw ⟨c, rfl, by omega⟩) hc)
    exact PR.thr 1 (by decide +kernel) h (w_back_cIO l D n0 κ μ o _ _ _ _ (by decide) (by decide) (c_X4_back_1 l hfl D n0 κ μ o _ _ hw)) (c_X5_back_1 l D n0 _ μ _ _ _ hb) (by decide) (by decide)
set_option maxHeartbeats 1000000 in
theorem s_quota {l : Launch} (hfl : l.stackTraces = false) (D : DD) (n0 : Nat) {κ μ : KH} {n q t : Nat} (h : RR κ μ n q t) (ht : t ≤ 1000) (o : Int64) (p0 p1 : Int32) : PR (fun k κ' o' => HW l D n0 yL_quota cL_quota 5 [(0, 10, 13, 13), (0, 10, 17, 15)] [.ref (n0 + 0), .int p0, .int p1, .ref (n0 + 126)] (κ, μ, o) k (κ', μ, o')) (fun f w κ' o' b μ' => HM l D n0 yX5_quota cX5_quota 4 (some .int) f w [.ref (n0 + 113), .int p0, .int p1] (κ', μ, o') (some (.int b)) (κ', μ', o')) t := by
  have h3 := h.1
  have hP := h.2.1
  have hn := hP.2.2.2.1
  have hy := h.up0 0
  obtain ⟨hQ1, hQ2, hQ8, hQ4⟩ := h.2.2.2.1
  by_cases hb : okC κ p0
  · obtain ⟨j, hj, rfl, h0⟩ := hb
    obtain ⟨h1, z, hz40, hz, hzm, hze⟩ := live2 h3 hj h0
    by_cases g1 : p1 < -1
    · exact PR.thr 2 (by decide +kernel) h (w_quota_cIA l D n0 κ μ o _ _ _ _ (by decide) (by decide) (c_X4_quota_2 l hfl D n0 κ μ o j _ hj h0 (Or.inl g1))) (c_X5_quota_2 l D n0 _ μ _ j _ hj h1 (Or.inl g1)) (by decide) (by decide)
    · by_cases g2 : p1 ≤ 40
      · have hR := RR_quota (x := p1) hy hj h0
        exact PR.ok (w_quota_ok l D n0 κ μ o _ _ _ _ (by decide) (by decide) _ _ (c_X4_quota l D n0 κ μ o j p1 hj h0 g1 g2 hR.cDs)) (c_X5_quota l D n0 _ μ _ j p1 hj h1 g1 g2 _ rfl hR.mDs) (by decide) (by decide) ((live hy.1.1.2 hj h0).2.2.1) (by rw [mDrain_00, up_cell (by decide), up_self]) (sim_serve hR) (Nat.le_succ t)
      · exact PR.thr 2 (by decide +kernel) h (w_quota_cIA l D n0 κ μ o _ _ _ _ (by decide) (by decide) (c_X4_quota_2 l hfl D n0 κ μ o j _ hj h0 (Or.inr (Int32.not_le.mp g2)))) (c_X5_quota_2 l D n0 _ μ _ j _ hj h1 (Or.inr (Int32.not_le.mp g2))) (by decide) (by decide)
  · have hbm : ¬ okV1 μ p0 := fun z => hb ((okC_iff h3 p0).mpr z)
    exact PR.thr 1 (by decide +kernel) h (w_quota_cIO l D n0 κ μ o _ _ _ _ (by decide) (by decide) (c_X4_quota_1 l hfl D n0 κ μ o _ _ hb)) (c_X5_quota_1 l D n0 _ μ _ _ _ hbm) (by decide) (by decide)
set_option maxHeartbeats 1000000 in
theorem s_marked {l : Launch} (hfl : l.stackTraces = false) (D : DD) (n0 : Nat) {κ μ : KH} {n q t : Nat} (h : RR κ μ n q t) (ht : t ≤ 1000) (o : Int64) (p0 : Int32) : PR (fun k κ' o' => HW l D n0 yL_marked cL_marked 4 [(0, 9, 12, 15)] [.ref (n0 + 0), .int p0, .ref (n0 + 126)] (κ, μ, o) k (κ', μ, o')) (fun f w κ' o' b μ' => HM l D n0 yX5_marked cX5_marked 2 (some .int) f w [.ref (n0 + 113), .int p0] (κ', μ, o') (some (.int b)) (κ', μ', o')) t := by
  have h3 := h.1
  have hP := h.2.1
  have hn := hP.2.2.2.1
  have hy := h.up0 0
  obtain ⟨hQ1, hQ2, hQ8, hQ4⟩ := h.2.2.2.1
  by_cases g1 : p0 < 0
  · exact PR.thr 1 (by decide +kernel) h (w_marked_cIA l D n0 κ μ o _ _ _ (by decide) (by decide) (c_X4_marked_t l hfl D n0 κ μ o _ (Or.inl g1))) (c_X5_marked_1 l D n0 _ μ _ _ (Or.inl g1)) (by decide) (by decide)
  · by_cases g2 : p0 ≤ 2
    · obtain ⟨S, hS, rfl⟩ := nI_of2 (M := 2) (n := 2) (by decide +kernel) g1 g2
      rcases (show S = 0 ∨ S = 1 ∨ S = 2 by omega) with rfl | rfl | rfl
      · exact PR.ok (w_marked_ok l D n0 κ μ o _ _ _ (by decide) (by decide) _ _ (c_X4_marked_0 l D n0 κ μ o )) (c_X5_marked l D n0 _ μ _ 0 (by decide) _ rfl) (by decide) (by decide) hy.1.1.2.2 up_self ⟨n, q, hy⟩ (Nat.le_succ t)
      · exact PR.ok (w_marked_ok l D n0 κ μ o _ _ _ (by decide) (by decide) _ _ (c_X4_marked_1 l D n0 κ μ o )) (c_X5_marked l D n0 _ μ _ 1 (by decide) _ rfl) (by decide) (by decide) hy.1.2.1.2.2 up_self ⟨n, q, hy⟩ (Nat.le_succ t)
      · exact PR.ok (w_marked_ok l D n0 κ μ o _ _ _ (by decide) (by decide) _ _ (c_X4_marked_2 l D n0 κ μ o )) (c_X5_marked l D n0 _ μ _ 2 (by decide) _ rfl) (by decide) (by decide) hy.1.2.2.2.2 up_self ⟨n, q, hy⟩ (Nat.le_succ t)
    · exact PR.thr 1 (by decide +kernel) h (w_marked_cIA l D n0 κ μ o _ _ _ (by decide) (by decide) (c_X4_marked_t l hfl D n0 κ μ o _ (Or.inr (Int32.not_le.mp g2)))) (c_X5_marked_1 l D n0 _ μ _ _ (Or.inr (Int32.not_le.mp g2))) (by decide) (by decide)
set_option maxHeartbeats 1000000 in
theorem s_cut {l : Launch} (hfl : l.stackTraces = false) (D : DD) (n0 : Nat) {κ μ : KH} {n q t : Nat} (h : RR κ μ n q t) (ht : t ≤ 1000) (o : Int64) (p0 : Int32) : PR (fun k κ' o' => HW l D n0 yL_cut cL_cut 4 [(0, 9, 12, 15)] [.ref (n0 + 0), .int p0, .ref (n0 + 126)] (κ, μ, o) k (κ', μ, o')) (fun f w κ' o' b μ' => HM l D n0 yX5_cut cX5_cut 2 (some .int) f w [.ref (n0 + 113), .int p0] (κ', μ, o') (some (.int b)) (κ', μ', o')) t := by
  have h3 := h.1
  have hP := h.2.1
  have hn := hP.2.2.2.1
  have hy := h.up0 0
  obtain ⟨hQ1, hQ2, hQ8, hQ4⟩ := h.2.2.2.1
  by_cases g1 : p0 < 0
  · exact PR.thr 1 (by decide +kernel) h (w_cut_cIA l D n0 κ μ o _ _ _ (by decide) (by decide) (c_X4_cut_t l hfl D n0 κ μ o _ (Or.inl g1))) (c_X5_cut_1 l D n0 _ μ _ _ (Or.inl g1)) (by decide) (by decide)
  · by_cases g2 : p0 ≤ 2
    · obtain ⟨S, hS, rfl⟩ := nI_of2 (M := 2) (n := 2) (by decide +kernel) g1 g2
      rcases (show S = 0 ∨ S = 1 ∨ S = 2 by omega) with rfl | rfl | rfl
      · have hR := RR_cut hy
        have hb : cScp κ 1 36 1 1 = nI (mVol (mCut (up μ 0 0 0)) 0) := by
          rw [vol_eq hR.1.1.2, ← hR.1.1.1.2.2]
          unfold cCut
          rw [up_cell (by decide), up_cell (by decide), up_cell (by decide), up_cell (by decide)]
        exact PR.ok (w_cut_ok l D n0 κ μ o _ _ _ (by decide) (by decide) _ _ (c_X4_cut l D n0 κ μ o 0 (by decide +kernel) (by decide +kernel) (by decide +kernel) (h36_of h3))) (c_X5_cut_a l D n0 _ μ _ _ rfl hy.2.2.2.2.2.2.2) (by decide) (by decide) hb (by unfold mCut; rw [up_ix (by decide), up_ix (by decide), up_ix (by decide), up_ix (by decide), mCp_o (by decide) (by decide) (by decide) (by omega), up_self]) ⟨n, 0, hR⟩ (Nat.le_succ t)
      · have hR := RR_cut hy
        have hb : cScp κ 1 36 1 1 = nI (mVol (mCut (up μ 0 0 0)) 0) := by
          rw [vol_eq hR.1.1.2, ← hR.1.1.1.2.2]
          unfold cCut
          rw [up_cell (by decide), up_cell (by decide), up_cell (by decide), up_cell (by decide)]
        exact PR.ok (w_cut_ok l D n0 κ μ o _ _ _ (by decide) (by decide) _ _ (c_X4_cut l D n0 κ μ o 1 (by decide +kernel) (by decide +kernel) (by decide +kernel) (h36_of h3))) (c_X5_cut_b l D n0 _ μ _ _ rfl hy.2.2.2.2.2.2.2) (by decide) (by decide) hb (by unfold mCut; rw [up_ix (by decide), up_ix (by decide), up_ix (by decide), up_ix (by decide), mCp_o (by decide) (by decide) (by decide) (by omega), up_self]) ⟨n, 0, hR⟩ (Nat.le_succ t)
      · have hC := RR_commit hy
        have hR := RR_cut hC
        have hb : cScp (cHd κ) 1 36 1 1 = nI (mVol (mCut (up (mCp (up μ 0 0 0) 0 1) 0 22 (mCp (up μ 0 0 0) 0 1 0 22 + 1))) 0) := by
          rw [vol_eq hR.1.1.2, ← hR.1.1.1.2.2]
          generalize cHd κ = x
          unfold cCut
          rw [up_cell (by decide), up_cell (by decide), up_cell (by decide), up_cell (by decide)]
        exact PR.ok (w_cut_ok l D n0 κ μ o _ _ _ (by decide) (by decide) _ _ (c_X4_cut_2 l D n0 κ μ o (h01_of h3) (h36_of hC.1))) (c_X5_cut_c l D n0 _ μ _ _ rfl hy.2.2.2.2.2.2.2) (by decide) (by decide) hb (by unfold mCut; rw [up_ix (by decide), up_ix (by decide), up_ix (by decide), up_ix (by decide), mCp_o (by decide) (by decide) (by decide) (by omega), up_ix (by decide), mCp_o (by decide) (by decide) (by decide) (by omega), up_self]) ⟨n, 0, hR⟩ (Nat.le_succ t)
    · exact PR.thr 1 (by decide +kernel) h (w_cut_cIA l D n0 κ μ o _ _ _ (by decide) (by decide) (c_X4_cut_t l hfl D n0 κ μ o _ (Or.inr (Int32.not_le.mp g2)))) (c_X5_cut_1 l D n0 _ μ _ _ (Or.inr (Int32.not_le.mp g2))) (by decide) (by decide)
set_option maxHeartbeats 1000000 in
theorem s_hold {l : Launch} (hfl : l.stackTraces = false) (D : DD) (n0 : Nat) {κ μ : KH} {n q t : Nat} (h : RR κ μ n q t) (ht : t ≤ 1000) (o : Int64) : PR (fun k κ' o' => HW l D n0 yL_hold cL_hold 3 [(0, 8, 11, 17)] [.ref (n0 + 0), .ref (n0 + 126)] (κ, μ, o) k (κ', μ, o')) (fun f w κ' o' b μ' => HM l D n0 yX5_hold cX5_hold 1 (some .int) f w [.ref (n0 + 113)] (κ', μ, o') (some (.int b)) (κ', μ', o')) t := by
  have h3 := h.1
  have hP := h.2.1
  have hn := hP.2.2.2.1
  have hy := h.up0 0
  obtain ⟨hQ1, hQ2, hQ8, hQ4⟩ := h.2.2.2.1
  have e6 : κ 0 6 = μ 0 8 := h.2.2.2.2.2.1.2.1
  by_cases hh : κ 0 6 = 0
  · have hR := RR_hold hy
    have hb : cScp κ 71 36 71 1 = nI (mVol (mCp (up (up μ 0 0 0) 0 8 1) 1 2) 2) := by
      rw [vol_eq hR.1.2.2.2, ← hR.1.2.2.1.2.2, up_cell (by decide)]
    exact PR.ok (w_hold_ok l D n0 κ μ o  _ _ (by decide) (by decide) _ _ (c_X4_hold l D n0 κ μ o hh (h36_of h3))) (c_X5_hold l D n0 _ μ _ _ rfl (by rw [← e6]; exact hh) hy.2.2.2.2.2.2.2) (by decide) (by decide) hb (by rw [mCp_o (by decide) (by decide) (by decide) (by omega), up_ix (by decide), up_self]) ⟨n, q, hR⟩ (Nat.le_succ t)
  · exact PR.thr 1 (by decide +kernel) h (w_hold_cIS l D n0 κ μ o  _ _ (by decide) (by decide) (c_X4_hold_t l hfl D n0 κ μ o hh)) (c_X5_hold_1 l D n0 _ μ _ (by rw [← e6]; exact hh)) (by decide) (by decide)
set_option maxHeartbeats 1000000 in
theorem s_patience {l : Launch} (hfl : l.stackTraces = false) (D : DD) (n0 : Nat) {κ μ : KH} {n q t : Nat} (h : RR κ μ n q t) (ht : t ≤ 1000) (o : Int64) (p0 : Int32) : PR (fun k κ' o' => HW l D n0 yL_patience cL_patience 4 [(0, 9, 12, 15)] [.ref (n0 + 0), .int p0, .ref (n0 + 126)] (κ, μ, o) k (κ', μ, o')) (fun f w κ' o' b μ' => HM l D n0 yX5_patience cX5_patience 3 (some .int) f w [.ref (n0 + 113), .int p0] (κ', μ, o') (some (.int b)) (κ', μ', o')) t := by
  have h3 := h.1
  have hP := h.2.1
  have hn := hP.2.2.2.1
  have hy := h.up0 0
  obtain ⟨hQ1, hQ2, hQ8, hQ4⟩ := h.2.2.2.1
  by_cases g1 : p0 < 0
  · exact PR.thr 1 (by decide +kernel) h (w_patience_cIA l D n0 κ μ o _ _ _ (by decide) (by decide) (c_X4_patience_t l hfl D n0 κ μ o _ (Or.inl g1))) (c_X5_patience_1 l D n0 _ μ _ _ (Or.inl g1)) (by decide) (by decide)
  · by_cases g2 : p0 ≤ 1000
    · have hR := RR_patience hy g1 g2
      exact PR.ok (w_patience_ok l D n0 κ μ o _ _ _ (by decide) (by decide) _ _ (c_X4_patience l D n0 κ μ o _ g1 g2)) (c_X5_patience l D n0 _ μ _ _ g1 g2 _ rfl) (by decide) (by decide) (hy.2.2.2.2.2.1.2.2.2.1) (by rw [up_ix (by decide), up_self]) ⟨n, q, hR⟩ (Nat.le_succ t)
    · exact PR.thr 1 (by decide +kernel) h (w_patience_cIA l D n0 κ μ o _ _ _ (by decide) (by decide) (c_X4_patience_t l hfl D n0 κ μ o _ (Or.inr (Int32.not_le.mp g2)))) (c_X5_patience_1 l D n0 _ μ _ _ (Or.inr (Int32.not_le.mp g2))) (by decide) (by decide)
set_option maxHeartbeats 1000000 in
theorem s_alarm {l : Launch} (hfl : l.stackTraces = false) (D : DD) (n0 : Nat) {κ μ : KH} {n q t : Nat} (h : RR κ μ n q t) (ht : t ≤ 1000) (o : Int64) (p0 : Int32) : PR (fun k κ' o' => HW l D n0 yL_alarm cL_alarm 4 [(0, 9, 12, 15)] [.ref (n0 + 0), .int p0, .ref (n0 + 126)] (κ, μ, o) k (κ', μ, o')) (fun f w κ' o' b μ' => HM l D n0 yX5_alarm cX5_alarm 3 (some .int) f w [.ref (n0 + 113), .int p0] (κ', μ, o') (some (.int b)) (κ', μ', o')) t := by
  have h3 := h.1
  have hP := h.2.1
  have hn := hP.2.2.2.1
  have hy := h.up0 0
  obtain ⟨hQ1, hQ2, hQ8, hQ4⟩ := h.2.2.2.1
  by_cases g1 : p0 < 0
  · exact PR.thr 1 (by decide +kernel) h (w_alarm_cIA l D n0 κ μ o _ _ _ (by decide) (by decide) (c_X4_alarm_t l hfl D n0 κ μ o _ (Or.inl g1))) (c_X5_alarm_1 l D n0 _ μ _ _ (Or.inl g1)) (by decide) (by decide)
  · by_cases g2 : p0 ≤ 96
    · have hR := RR_alarm (x := p0) hy
      exact PR.ok (w_alarm_ok l D n0 κ μ o _ _ _ (by decide) (by decide) _ _ (c_X4_alarm l D n0 κ μ o _ g1 g2)) (c_X5_alarm l D n0 _ μ _ _ g1 g2 _ rfl) (by decide) (by decide) (hy.2.1.2.2.2.2.2.1) (by rw [up_ix (by decide), up_self]) ⟨n, q, hR⟩ (Nat.le_succ t)
    · exact PR.thr 1 (by decide +kernel) h (w_alarm_cIA l D n0 κ μ o _ _ _ (by decide) (by decide) (c_X4_alarm_t l hfl D n0 κ μ o _ (Or.inr (Int32.not_le.mp g2)))) (c_X5_alarm_1 l D n0 _ μ _ _ (Or.inr (Int32.not_le.mp g2))) (by decide) (by decide)
set_option maxHeartbeats 1000000 in
theorem s_tick {l : Launch} (hfl : l.stackTraces = false) (D : DD) (n0 : Nat) {κ μ : KH} {n q t : Nat} (h : RR κ μ n q t) (ht : t ≤ 1000) (o : Int64) (p0 : Int32) : PR (fun k κ' o' => HW l D n0 yL_tick cL_tick 4 [(0, 9, 12, 15)] [.ref (n0 + 0), .int p0, .ref (n0 + 126)] (κ, μ, o) k (κ', μ, o')) (fun f w κ' o' b μ' => HM l D n0 yX5_tick cX5_tick 3 (some .int) f w [.ref (n0 + 113), .int p0] (κ', μ, o') (some (.int b)) (κ', μ', o')) t := by
  have h3 := h.1
  have hP := h.2.1
  have hn := hP.2.2.2.1
  have hy := h.up0 0
  obtain ⟨hQ1, hQ2, hQ8, hQ4⟩ := h.2.2.2.1
  by_cases g1 : p0 < 0
  · exact PR.thr 1 (by decide +kernel) h (w_tick_cIA l D n0 κ μ o _ _ _ (by decide) (by decide) (c_X4_tick_t l hfl D n0 κ μ o _ (Or.inl g1))) (c_X5_tick_1 l D n0 _ μ _ _ (Or.inl g1)) (by decide) (by decide)
  · by_cases g2 : p0 ≤ 10000
    · rcases sim_tick hy ht g1 g2 with ⟨a1, a2, a3⟩ | ⟨a1, a2, a3, a4⟩
      · exact PR.ok (w_tick_ok l D n0 κ μ o _ _ _ (by decide) (by decide) _ _ (c_X4_tick_n l D n0 κ μ o _ g1 g2 a1)) (c_X5_tick l D n0 _ μ _ _ g1 g2 _ rfl) (by decide) (by decide) a3.symm (by rw [mTick_00, up_self]) a2 (Nat.le_refl _)
      · exact PR.ok (w_tick_ok l D n0 κ μ o _ _ _ (by decide) (by decide) _ _ (c_X4_tick l D n0 κ μ o _ g1 g2 a1 a2)) (c_X5_tick l D n0 _ μ _ _ g1 g2 _ rfl) (by decide) (by decide) a4.symm (by rw [mTick_00, up_self]) a3 (Nat.le_refl _)
    · exact PR.thr 1 (by decide +kernel) h (w_tick_cIA l D n0 κ μ o _ _ _ (by decide) (by decide) (c_X4_tick_t l hfl D n0 κ μ o _ (Or.inr (Int32.not_le.mp g2)))) (c_X5_tick_1 l D n0 _ μ _ _ (Or.inr (Int32.not_le.mp g2))) (by decide) (by decide)
set_option maxHeartbeats 1000000 in
theorem s_map {l : Launch} (hfl : l.stackTraces = false) (D : DD) (n0 : Nat) {κ μ : KH} {n q t : Nat} (h : RR κ μ n q t) (ht : t ≤ 1000) (o : Int64) (p0 p1 p2 : Int32) : PR (fun k κ' o' => HW l D n0 yL_map cL_map 6 [(0, 12, 15, 15), (0, 12, 19, 13)] [.ref (n0 + 0), .int p0, .int p1, .int p2, .ref (n0 + 126)] (κ, μ, o) k (κ', μ, o')) (fun f w κ' o' b μ' => HM l D n0 yX5_map cX5_map 4 (some .int) f w [.ref (n0 + 113), .int p0, .int p1, .int p2] (κ', μ, o') (some (.int b)) (κ', μ', o')) t := by
  have h3 := h.1
  have hP := h.2.1
  have hn := hP.2.2.2.1
  have hy := h.up0 0
  obtain ⟨hQ1, hQ2, hQ8, hQ4⟩ := h.2.2.2.1
  by_cases g1 : p0 < 0
  · exact PR.thr 1 (by decide +kernel) h (w_map_cIA l D n0 κ μ o _ _ _ _ _ (by decide) (by decide) (c_X4_map_t l hfl D n0 κ μ o _ _ _ (Or.inl g1))) (c_X5_map_1 l D n0 _ μ _ _ _ _ (Or.inl g1)) (by decide) (by decide)
  · by_cases g2 : p0 ≤ 2
    · obtain ⟨S, hS, rfl⟩ := nI_of2 (M := 2) (n := 2) (by decide +kernel) g1 g2
      rcases (show S = 0 ∨ S = 1 ∨ S = 2 by omega) with rfl | rfl | rfl
      · rcases vNum_or p1 with hv | ⟨j, hj, rfl⟩
        · exact PR.thr 2 (by decide +kernel) h (w_map_cIO l D n0 κ μ o _ _ _ _ _ (by decide) (by decide) (c_X4_map_0v l hfl D n0 κ μ o _ _ hv)) (c_X5_map_2 l D n0 _ μ _ 0 _ _ (by decide) (Or.inl hv)) (by decide) (by decide)
        · by_cases d1 : p2 < 0
          · exact PR.thr 2 (by decide +kernel) h (w_map_cIO l D n0 κ μ o _ _ _ _ _ (by decide) (by decide) (c_X4_map_0p l hfl D n0 κ μ o j _ hj (Or.inl d1))) (c_X5_map_2 l D n0 _ μ _ 0 _ _ (by decide) (Or.inr (Or.inl d1))) (by decide) (by decide)
          · by_cases d2 : p2 < 40
            · obtain ⟨p, hp, rfl⟩ := nI_of d1
              have hp40 : p < 40 := cv_lt (b := 40) hp (by decide) d2
              exact PR.ok (w_map_ok l D n0 κ μ o _ _ _ _ _ (by decide) (by decide) _ _ (c_X4_map_0 l D n0 κ μ o j p hj hp40)) (c_X5_map l D n0 _ μ _ 0 j p (by decide) hj hp40 _ rfl) (by decide) (by decide) (map_told hy.1.1.1 hy.1.1.2 hj hp40) up_self ⟨n, q, hy⟩ (Nat.le_succ t)
            · exact PR.thr 2 (by decide +kernel) h (w_map_cIO l D n0 κ μ o _ _ _ _ _ (by decide) (by decide) (c_X4_map_0p l hfl D n0 κ μ o j _ hj (Or.inr (Int32.not_lt.mp d2)))) (c_X5_map_2 l D n0 _ μ _ 0 _ _ (by decide) (Or.inr (Or.inr d2))) (by decide) (by decide)
      · rcases vNum_or p1 with hv | ⟨j, hj, rfl⟩
        · exact PR.thr 2 (by decide +kernel) h (w_map_cIO l D n0 κ μ o _ _ _ _ _ (by decide) (by decide) (c_X4_map_1v l hfl D n0 κ μ o _ _ hv)) (c_X5_map_2 l D n0 _ μ _ 1 _ _ (by decide) (Or.inl hv)) (by decide) (by decide)
        · by_cases d1 : p2 < 0
          · exact PR.thr 2 (by decide +kernel) h (w_map_cIO l D n0 κ μ o _ _ _ _ _ (by decide) (by decide) (c_X4_map_1p l hfl D n0 κ μ o j _ hj (Or.inl d1))) (c_X5_map_2 l D n0 _ μ _ 1 _ _ (by decide) (Or.inr (Or.inl d1))) (by decide) (by decide)
          · by_cases d2 : p2 < 40
            · obtain ⟨p, hp, rfl⟩ := nI_of d1
              have hp40 : p < 40 := cv_lt (b := 40) hp (by decide) d2
              exact PR.ok (w_map_ok l D n0 κ μ o _ _ _ _ _ (by decide) (by decide) _ _ (c_X4_map_1 l D n0 κ μ o j p hj hp40)) (c_X5_map l D n0 _ μ _ 1 j p (by decide) hj hp40 _ rfl) (by decide) (by decide) (map_told hy.1.2.1.1 hy.1.2.1.2 hj hp40) up_self ⟨n, q, hy⟩ (Nat.le_succ t)
            · exact PR.thr 2 (by decide +kernel) h (w_map_cIO l D n0 κ μ o _ _ _ _ _ (by decide) (by decide) (c_X4_map_1p l hfl D n0 κ μ o j _ hj (Or.inr (Int32.not_lt.mp d2)))) (c_X5_map_2 l D n0 _ μ _ 1 _ _ (by decide) (Or.inr (Or.inr d2))) (by decide) (by decide)
      · rcases vNum_or p1 with hv | ⟨j, hj, rfl⟩
        · exact PR.thr 2 (by decide +kernel) h (w_map_cIO l D n0 κ μ o _ _ _ _ _ (by decide) (by decide) (c_X4_map_2v l hfl D n0 κ μ o _ _ hv)) (c_X5_map_2 l D n0 _ μ _ 2 _ _ (by decide) (Or.inl hv)) (by decide) (by decide)
        · by_cases d1 : p2 < 0
          · exact PR.thr 2 (by decide +kernel) h (w_map_cIO l D n0 κ μ o _ _ _ _ _ (by decide) (by decide) (c_X4_map_2p l hfl D n0 κ μ o j _ hj (Or.inl d1))) (c_X5_map_2 l D n0 _ μ _ 2 _ _ (by decide) (Or.inr (Or.inl d1))) (by decide) (by decide)
          · by_cases d2 : p2 < 40
            · obtain ⟨p, hp, rfl⟩ := nI_of d1
              have hp40 : p < 40 := cv_lt (b := 40) hp (by decide) d2
              exact PR.ok (w_map_ok l D n0 κ μ o _ _ _ _ _ (by decide) (by decide) _ _ (c_X4_map_2 l D n0 κ μ o j p hj hp40)) (c_X5_map l D n0 _ μ _ 2 j p (by decide) hj hp40 _ rfl) (by decide) (by decide) (map_told hy.1.2.2.1 hy.1.2.2.2 hj hp40) up_self ⟨n, q, hy⟩ (Nat.le_succ t)
            · exact PR.thr 2 (by decide +kernel) h (w_map_cIO l D n0 κ μ o _ _ _ _ _ (by decide) (by decide) (c_X4_map_2p l hfl D n0 κ μ o j _ hj (Or.inr (Int32.not_lt.mp d2)))) (c_X5_map_2 l D n0 _ μ _ 2 _ _ (by decide) (Or.inr (Or.inr d2))) (by decide) (by decide)
    · exact PR.thr 1 (by decide +kernel) h (w_map_cIA l D n0 κ μ o _ _ _ _ _ (by decide) (by decide) (c_X4_map_t l hfl D n0 κ μ o _ _ _ (Or.inr (Int32.not_le.mp g2)))) (c_X5_map_1 l D n0 _ μ _ _ _ _ (Or.inr (Int32.not_le.mp g2))) (by decide) (by decide)
set_option maxHeartbeats 1000000 in
theorem s_volume {l : Launch} (hfl : l.stackTraces = false) (D : DD) (n0 : Nat) {κ μ : KH} {n q t : Nat} (h : RR κ μ n q t) (ht : t ≤ 1000) (o : Int64) (p0 p1 : Int32) : PR (fun k κ' o' => HW l D n0 yL_volume cL_volume 5 [(0, 10, 13, 13)] [.ref (n0 + 0), .int p0, .int p1, .ref (n0 + 126)] (κ, μ, o) k (κ', μ, o')) (fun f w κ' o' b μ' => HM l D n0 yX5_volume cX5_volume 8 (some .int) f w [.ref (n0 + 113), .int p0, .int p1] (κ', μ, o') (some (.int b)) (κ', μ', o')) t := by
  have h3 := h.1
  have hP := h.2.1
  have hn := hP.2.2.2.1
  have hy := h.up0 0
  obtain ⟨hQ1, hQ2, hQ8, hQ4⟩ := h.2.2.2.1
  by_cases hb : okC κ p0
  · obtain ⟨j, hj, rfl, h0⟩ := hb
    obtain ⟨h1, z, hz40, hz, hzm, hze⟩ := live2 h3 hj h0
    have lv := live hy.1.1.2 hj h0
    by_cases g1 : p1 < 0
    · exact PR.thr 1 (by decide +kernel) h (w_volume_cIO l D n0 κ μ o _ _ _ _ (by decide) (by decide) (c_X4_volume_2 l hfl D n0 κ μ o j _ hj h0 (Or.inl g1))) (c_X5_volume_x l D n0 _ μ _ _ _ (fun z => absurd g1 z.2.1)) (by decide) (by decide)
    · by_cases g2 : p1 ≤ 7
      · obtain ⟨S, hS, rfl⟩ := nI_of2 (M := 7) (n := 7) (by decide +kernel) g1 g2
        rcases (show S = 0 ∨ S = 1 ∨ S = 2 ∨ S = 3 ∨ S = 4 ∨ S = 5 ∨ S = 6 ∨ S = 7 by omega) with rfl | rfl | rfl | rfl | rfl | rfl | rfl | rfl
        · exact PR.ok (w_volume_ok l D n0 κ μ o _ _ _ _ (by decide) (by decide) _ _ (c_X4_volume_w0 l D n0 κ μ o j hj h0)) (c_X5_volume_0 l D n0 _ μ _ j q hj h1 _ rfl hy.2.2.2.1.2.1 hQ8) (by decide) (by decide) lv.2.1 up_self ⟨n, q, hy⟩ (Nat.le_succ t)
        · exact PR.ok (w_volume_ok l D n0 κ μ o _ _ _ _ (by decide) (by decide) _ _ (c_X4_volume_w1 l D n0 κ μ o j hj h0)) (c_X5_volume_1 l D n0 _ μ _ j q hj h1 _ rfl hy.2.2.2.1.2.1 hQ8) (by decide) (by decide) (by rw [map_eq hy.1 hj h0]; exact (CIv hy.1.1.1 hj).2.2.1) up_self ⟨n, q, hy⟩ (Nat.le_succ t)
        · exact PR.ok (w_volume_ok l D n0 κ μ o _ _ _ _ (by decide) (by decide) _ _ (c_X4_volume_w2 l D n0 κ μ o j hj h0)) (c_X5_volume_2 l D n0 _ μ _ j q hj h1 _ rfl hy.2.2.2.1.2.1 hQ8) (by decide) (by decide) (last_eq hy hj h0 40 (Nat.le_refl _)) up_self ⟨n, q, hy⟩ (Nat.le_succ t)
        · exact PR.ok (w_volume_ok l D n0 κ μ o _ _ _ _ (by decide) (by decide) _ _ (c_X4_volume_w3 l D n0 κ μ o j hj h0 (fun x => h3.aX (isVk hj) x))) (c_X5_volume_3 l D n0 _ μ _ j q hj h1 _ rfl hy.2.2.2.1.2.1 hQ8) (by decide) (by decide) (by rw [ns_eq hy hj h0]) up_self ⟨n, q, hy⟩ (Nat.le_succ t)
        · exact PR.ok (w_volume_ok l D n0 κ μ o _ _ _ _ (by decide) (by decide) _ _ (c_X4_volume_w4 l D n0 κ μ o j hj h0)) (c_X5_volume_4 l D n0 _ μ _ j q hj h1 _ rfl hy.2.2.2.1.2.1 hQ8) (by decide) (by decide) lv.2.2.2.1 up_self ⟨n, q, hy⟩ (Nat.le_succ t)
        · exact PR.ok (w_volume_ok l D n0 κ μ o _ _ _ _ (by decide) (by decide) _ _ (c_X4_volume_w5 l D n0 κ μ o j hj h0 q hQ1 hQ8)) (c_X5_volume_5 l D n0 _ μ _ j q hj h1 _ rfl hy.2.2.2.1.2.1 hQ8) (by decide) (by decide) (by rw [qc_eq hy]) up_self ⟨n, q, hy⟩ (Nat.le_succ t)
        · exact PR.ok (w_volume_ok l D n0 κ μ o _ _ _ _ (by decide) (by decide) _ _ (c_X4_volume_w6 l D n0 κ μ o j hj h0)) (c_X5_volume_6 l D n0 _ μ _ j q hj h1 _ rfl hy.2.2.2.1.2.1 hQ8) (by decide) (by decide) (by rw [lv.1]) up_self ⟨n, q, hy⟩ (Nat.le_succ t)
        · exact PR.ok (w_volume_ok l D n0 κ μ o _ _ _ _ (by decide) (by decide) _ _ (c_X4_volume_w7 l D n0 κ μ o j hj h0)) (c_X5_volume_7 l D n0 _ μ _ j q hj h1 _ rfl hy.2.2.2.1.2.1 hQ8) (by decide) (by decide) lv.2.2.1 up_self ⟨n, q, hy⟩ (Nat.le_succ t)
      · exact PR.thr 1 (by decide +kernel) h (w_volume_cIO l D n0 κ μ o _ _ _ _ (by decide) (by decide) (c_X4_volume_2 l hfl D n0 κ μ o j _ hj h0 (Or.inr (Int32.not_le.mp g2)))) (c_X5_volume_x l D n0 _ μ _ _ _ (fun z => g2 z.2.2)) (by decide) (by decide)
  · have hbm : ¬ okV1 μ p0 := fun z => hb ((okC_iff h3 p0).mpr z)
    exact PR.thr 1 (by decide +kernel) h (w_volume_cIO l D n0 κ μ o _ _ _ _ (by decide) (by decide) (c_X4_volume_1 l hfl D n0 κ μ o _ _ hb)) (c_X5_volume_x l D n0 _ μ _ _ _ (fun z => hbm z.1)) (by decide) (by decide)
set_option maxHeartbeats 1000000 in
theorem s_differ {l : Launch} (hfl : l.stackTraces = false) (D : DD) (n0 : Nat) {κ μ : KH} {n q t : Nat} (h : RR κ μ n q t) (ht : t ≤ 1000) (o : Int64) (p0 p1 p2 : Int32) : PR (fun k κ' o' => HW l D n0 yL_differ cL_differ 6 [(0, 12, 15, 13)] [.ref (n0 + 0), .int p0, .int p1, .int p2, .ref (n0 + 126)] (κ, μ, o) k (κ', μ, o')) (fun f w κ' o' b μ' => HM l D n0 yX5_differ cX5_differ 8 (some .int) f w [.ref (n0 + 113), .int p0, .int p1, .int p2] (κ', μ, o') (some (.int b)) (κ', μ', o')) t := by
  have h3 := h.1
  have hP := h.2.1
  have hn := hP.2.2.2.1
  have hy := h.up0 0
  obtain ⟨hQ1, hQ2, hQ8, hQ4⟩ := h.2.2.2.1
  by_cases hb : okC κ p0
  · obtain ⟨i, hi, rfl, h1⟩ := hb
    by_cases hb2 : okC κ p1
    · obtain ⟨j, hj, rfl, h0⟩ := hb2
      have m1 : μ 1 i ≠ 0 := by rw [← live0 h3.1.2 hi]; exact h1
      have m2 : μ 1 j ≠ 0 := by rw [← live0 h3.1.2 hj]; exact h0
      by_cases g1 : p2 < 0
      · exact PR.thr 1 (by decide +kernel) h (w_differ_cIO l D n0 κ μ o _ _ _ _ _ (by decide) (by decide) (c_X4_differ_3 l hfl D n0 κ μ o i j _ hi hj h1 h0 (Or.inl g1))) (c_X5_differ_x l D n0 _ μ _ _ _ _ (fun z => absurd g1 z.2.2.1) _ rfl) (by decide) (by decide)
      · by_cases g2 : p2 ≤ 4
        · obtain ⟨S, hS, rfl⟩ := nI_of2 (M := 4) (n := 4) (by decide +kernel) g1 g2
          rcases (show S = 0 ∨ S = 1 ∨ S = 2 ∨ S = 3 ∨ S = 4 by omega) with rfl | rfl | rfl | rfl | rfl
          · exact PR.ok (w_differ_ok l D n0 κ μ o _ _ _ _ _ (by decide) (by decide) _ _ (c_X4_differ l D n0 κ μ o i j 0 hi hj h1 h0 (by decide +kernel) (by decide +kernel) (by decide +kernel))) (c_X5_differ_0 l D n0 _ μ _ i j hi hj m1 m2 _ rfl) (by decide) (by decide) (by rw [df_eq hy hi hj h1 h0]) up_self ⟨n, q, hy⟩ (Nat.le_succ t)
          · exact PR.ok (w_differ_ok l D n0 κ μ o _ _ _ _ _ (by decide) (by decide) _ _ (c_X4_differ l D n0 κ μ o i j 1 hi hj h1 h0 (by decide +kernel) (by decide +kernel) (by decide +kernel))) (c_X5_differ_1 l D n0 _ μ _ i j hi hj m1 m2 _ rfl) (by decide) (by decide) (by rw [df_eq hy hi hj h1 h0]) up_self ⟨n, q, hy⟩ (Nat.le_succ t)
          · exact PR.ok (w_differ_ok l D n0 κ μ o _ _ _ _ _ (by decide) (by decide) _ _ (c_X4_differ l D n0 κ μ o i j 2 hi hj h1 h0 (by decide +kernel) (by decide +kernel) (by decide +kernel))) (c_X5_differ_2 l D n0 _ μ _ i j hi hj m1 m2 _ rfl) (by decide) (by decide) (by rw [df_eq hy hi hj h1 h0]) up_self ⟨n, q, hy⟩ (Nat.le_succ t)
          · exact PR.ok (w_differ_ok l D n0 κ μ o _ _ _ _ _ (by decide) (by decide) _ _ (c_X4_differ l D n0 κ μ o i j 3 hi hj h1 h0 (by decide +kernel) (by decide +kernel) (by decide +kernel))) (c_X5_differ_3 l D n0 _ μ _ i j hi hj m1 m2 _ rfl) (by decide) (by decide) (by rw [df_eq hy hi hj h1 h0]) up_self ⟨n, q, hy⟩ (Nat.le_succ t)
          · exact PR.ok (w_differ_ok l D n0 κ μ o _ _ _ _ _ (by decide) (by decide) _ _ (c_X4_differ_4 l D n0 κ μ o i j hi hj h1 h0)) (c_X5_differ_4 l D n0 _ μ _ i j hi hj m1 m2 _ rfl) (by decide) (by decide) (by rw [rn_eq hy hi hj h1 h0]) up_self ⟨n, q, hy⟩ (Nat.le_succ t)
        · exact PR.thr 1 (by decide +kernel) h (w_differ_cIO l D n0 κ μ o _ _ _ _ _ (by decide) (by decide) (c_X4_differ_3 l hfl D n0 κ μ o i j _ hi hj h1 h0 (Or.inr (Int32.not_le.mp g2)))) (c_X5_differ_x l D n0 _ μ _ _ _ _ (fun z => g2 z.2.2.2) _ rfl) (by decide) (by decide)
    · exact PR.thr 1 (by decide +kernel) h (w_differ_cIO l D n0 κ μ o _ _ _ _ _ (by decide) (by decide) (c_X4_differ_2 l hfl D n0 κ μ o i _ _ hi h1 hb2)) (c_X5_differ_x l D n0 _ μ _ _ _ _ (fun z => hb2 ((okC_iff h3 _).mpr z.2.1)) _ rfl) (by decide) (by decide)
  · exact PR.thr 1 (by decide +kernel) h (w_differ_cIO l D n0 κ μ o _ _ _ _ _ (by decide) (by decide) (c_X4_differ_1 l hfl D n0 κ μ o _ _ _ hb)) (c_X5_differ_x l D n0 _ μ _ _ _ _ (fun z => hb ((okC_iff h3 _).mpr z.1)) _ rfl) (by decide) (by decide)
set_option maxHeartbeats 1000000 in
theorem s_users {l : Launch} (hfl : l.stackTraces = false) (D : DD) (n0 : Nat) {κ μ : KH} {n q t : Nat} (h : RR κ μ n q t) (ht : t ≤ 1000) (o : Int64) (p0 : Int32) : PR (fun k κ' o' => HW l D n0 yL_users cL_users 4 [(0, 9, 12, 13)] [.ref (n0 + 0), .int p0, .ref (n0 + 126)] (κ, μ, o) k (κ', μ, o')) (fun f w κ' o' b μ' => HM l D n0 yX5_users cX5_users 2 (some .int) f w [.ref (n0 + 113), .int p0] (κ', μ, o') (some (.int b)) (κ', μ', o')) t := by
  have h3 := h.1
  have hP := h.2.1
  have hn := hP.2.2.2.1
  have hy := h.up0 0
  obtain ⟨hQ1, hQ2, hQ8, hQ4⟩ := h.2.2.2.1
  have eN : nE μ = n := hP.nEe
  have hEm : μ 0 9 = nI (nE μ) := by rw [eN]; exact hP.2.1
  have hE9 : nE μ < 97 := by rw [eN]; omega
  by_cases he : ∃ c : Nat, p0 = nI c ∧ c < n
  · obtain ⟨e, rfl, he⟩ := he
    exact PR.ok (w_users_ok l D n0 κ μ o _ _ _ (by decide) (by decide) _ _ (c_X4_users l D n0 κ μ o n hP.1 hn e he)) (c_X5_users l D n0 _ μ _ e hEm hE9 (by rw [eN]; exact he) _ rfl) (by decide) (by decide) (hy.1.u1 (by omega)) up_self ⟨n, q, hy⟩ (Nat.le_succ t)
  · have hbe : ¬ okE μ p0 := fun ⟨k, a, b⟩ => he ⟨k, b, by rw [← eN]; exact a⟩
    exact PR.thr 1 (by decide +kernel) h (w_users_cIO l D n0 κ μ o _ _ _ (by decide) (by decide) (c_X4_users_t l hfl D n0 κ μ o _ n hP.1 hn he)) (c_X5_users_1 l D n0 _ μ _ _ hEm hE9 hbe) (by decide) (by decide)
set_option maxHeartbeats 1000000 in
theorem s_user {l : Launch} (hfl : l.stackTraces = false) (D : DD) (n0 : Nat) {κ μ : KH} {n q t : Nat} (h : RR κ μ n q t) (ht : t ≤ 1000) (o : Int64) (p0 p1 : Int32) : PR (fun k κ' o' => HW l D n0 yL_user cL_user 5 [(0, 10, 13, 13)] [.ref (n0 + 0), .int p0, .int p1, .ref (n0 + 126)] (κ, μ, o) k (κ', μ, o')) (fun f w κ' o' b μ' => HM l D n0 yX5_user cX5_user 6 (some .int) f w [.ref (n0 + 113), .int p0, .int p1] (κ', μ, o') (some (.int b)) (κ', μ', o')) t := by
  have h3 := h.1
  have hP := h.2.1
  have hn := hP.2.2.2.1
  have hy := h.up0 0
  obtain ⟨hQ1, hQ2, hQ8, hQ4⟩ := h.2.2.2.1
  have eN : nE μ = n := hP.nEe
  have hEm : μ 0 9 = nI (nE μ) := by rw [eN]; exact hP.2.1
  have hE9 : nE μ < 97 := by rw [eN]; omega
  by_cases he : ∃ c : Nat, p0 = nI c ∧ c < n
  · obtain ⟨e, rfl, he⟩ := he
    have he31 : e < 2 ^ 31 := by omega
    by_cases hex : ∃ a, a < 640 ∧ κ (1 + 2 + 2 * (a / 40) + 1) (a % 40) = nI e ∧ nI (sumTo (cU1 κ 1 (nI e)) a) = p1
    · obtain ⟨a0, ⟨ha0, hm0, hi0⟩, hlt⟩ := pk_least _ hex
      obtain ⟨t1, t2⟩ := (at_live hy.1 he31 ha0).mp hm0
      have t0 : κ (cVk (a0 / 40)) 0 ≠ 0 := by rw [live0 hy.1.1.2 (show a0 / 40 < 16 by omega)]; exact t1
      have hsum := u_eq (e := e) (v := a0 / 40) (p := a0 % 40) hy.1 he31 (by omega) (by omega) t0
      rw [show 40 * (a0 / 40) + a0 % 40 = a0 by omega] at hsum
      have hM := c_X5_user l D n0 κ μ (Int32.toInt64 (nI (64 * (a0 / 40) + a0 % 40))) e p1 hEm hE9 (by rw [eN]; exact he) _ rfl (a0 / 40) (a0 % 40) (by omega) (by omega) t1 t2 (by rw [← hsum]; exact hi0) (fun v p hvp g1 g2 => by
        have hv16 : v < 16 := by omega
        have hp40 : p < 40 := by omega
        have g0 : κ (cVk v) 0 ≠ 0 := by rw [live0 hy.1.1.2 hv16]; exact g1
        rw [← u_eq hy.1 he31 hv16 hp40 g0]
        have hd1 : (40 * v + p) / 40 = v := by omega
        have hd2 : (40 * v + p) % 40 = p := by omega
        exact fun z => hlt (40 * v + p) (by omega) ⟨by omega, (at_live hy.1 he31 (show 40 * v + p < 640 by omega)).mpr (by rw [hd1, hd2]; exact ⟨g1, g2⟩), z⟩)
      exact PR.ok (w_user_ok l D n0 κ μ o _ _ _ _ (by decide) (by decide) _ _ (c_X4_user l D n0 κ μ o n hP.1 hn e he p1 a0 ha0 hm0 hi0 (fun a ha hm hc => hlt a ha ⟨by omega, hm, hc⟩))) (hM) (by decide) (by decide) rfl up_self ⟨n, q, hy⟩ (Nat.le_succ t)
    · have hM := c_X5_user_n l D n0 κ μ (Int32.toInt64 (-1)) e p1 hEm hE9 (by rw [eN]; exact he) _ rfl (fun v p hv16 hp40 g1 g2 => by
        have g0 : κ (cVk v) 0 ≠ 0 := by rw [live0 hy.1.1.2 hv16]; exact g1
        rw [← u_eq hy.1 he31 hv16 hp40 g0]
        have hd1 : (40 * v + p) / 40 = v := by omega
        have hd2 : (40 * v + p) % 40 = p := by omega
        exact fun z => hex ⟨40 * v + p, by omega, (at_live hy.1 he31 (show 40 * v + p < 640 by omega)).mpr (by rw [hd1, hd2]; exact ⟨g1, g2⟩), z⟩)
      exact PR.ok (w_user_ok l D n0 κ μ o _ _ _ _ (by decide) (by decide) _ _ (c_X4_user_n l D n0 κ μ o n hP.1 hn e he p1 (fun a ha hm hc => hex ⟨a, ha, hm, hc⟩))) (hM) (by decide) (by decide) rfl up_self ⟨n, q, hy⟩ (Nat.le_succ t)
  · have hbe : ¬ okE μ p0 := fun ⟨k, a, b⟩ => he ⟨k, b, by rw [← eN]; exact a⟩
    exact PR.thr 1 (by decide +kernel) h (w_user_cIO l D n0 κ μ o _ _ _ _ (by decide) (by decide) (c_X4_user_t l hfl D n0 κ μ o _ _ n hP.1 hn he)) (c_X5_user_1 l D n0 _ μ _ _ _ hEm hE9 hbe _ rfl) (by decide) (by decide)
set_option maxHeartbeats 1000000 in
theorem s_told {l : Launch} (hfl : l.stackTraces = false) (D : DD) (n0 : Nat) {κ μ : KH} {n q t : Nat} (h : RR κ μ n q t) (ht : t ≤ 1000) (o : Int64) (p0 : Int32) : PR (fun k κ' o' => HW l D n0 yL_told cL_told 4 [(0, 9, 12, 13)] [.ref (n0 + 0), .int p0, .ref (n0 + 126)] (κ, μ, o) k (κ', μ, o')) (fun f w κ' o' b μ' => HM l D n0 yX5_told cX5_told 2 (some .int) f w [.ref (n0 + 113), .int p0] (κ', μ, o') (some (.int b)) (κ', μ', o')) t := by
  have h3 := h.1
  have hP := h.2.1
  have hn := hP.2.2.2.1
  have hy := h.up0 0
  obtain ⟨hQ1, hQ2, hQ8, hQ4⟩ := h.2.2.2.1
  have hN := hy.2.2.2.2.2.1
  have hE9 : nE (up μ 0 0 0) = n := hy.2.1.nEe
  by_cases g1 : p0 < 0
  · exact PR.thr 1 (by decide +kernel) h (w_told_cIO l D n0 κ μ o _ _ _ (by decide) (by decide) (c_X4_told_t l hfl D n0 κ μ o _ (Or.inl g1))) (c_X5_told_x l D n0 _ μ _ _ (Or.inl g1)) (by decide) (by decide)
  · by_cases g2 : p0 ≤ 13
    · obtain ⟨S, hS, rfl⟩ := nI_of2 (M := 13) (n := 13) (by decide +kernel) g1 g2
      rcases (show S = 0 ∨ S = 1 ∨ S = 2 ∨ S = 3 ∨ S = 4 ∨ S = 5 ∨ S = 6 ∨ S = 7 ∨ S = 8 ∨ S = 9 ∨ S = 10 ∨ S = 11 ∨ S = 12 ∨ S = 13 by omega) with rfl | rfl | rfl | rfl | rfl | rfl | rfl | rfl | rfl | rfl | rfl | rfl | rfl | rfl
      · exact PR.ok (w_told_ok l D n0 κ μ o _ _ _ (by decide) (by decide) _ _ (c_X4_told_0 l D n0 κ μ o )) (c_X5_told_0 l D n0 _ μ _ _ rfl) (by decide) (by decide) (by rw [hy.2.1.1, hy.2.1.2.1]) up_self ⟨n, q, hy⟩ (Nat.le_succ t)
      · exact PR.ok (w_told_ok l D n0 κ μ o _ _ _ (by decide) (by decide) _ _ (c_X4_told_1 l D n0 κ μ o n hP.1 hn)) (c_X5_told_1 l D n0 _ μ _ _ rfl (by rw [hE9]; exact hy.2.1.2.1) (by rw [hE9]; omega)) (by decide) (by decide) (by rw [hE9, fm_eq hy.1 hn]) up_self ⟨n, q, hy⟩ (Nat.le_succ t)
      · exact PR.ok (w_told_ok l D n0 κ μ o _ _ _ (by decide) (by decide) _ _ (c_X4_told_2 l D n0 κ μ o )) (c_X5_told_2 l D n0 _ μ _ _ rfl) (by decide) (by decide) hN.2.2.1 up_self ⟨n, q, hy⟩ (Nat.le_succ t)
      · exact PR.ok (w_told_ok l D n0 κ μ o _ _ _ (by decide) (by decide) _ _ (c_X4_told_3 l D n0 κ μ o )) (c_X5_told_3 l D n0 _ μ _ _ rfl) (by decide) (by decide) (by rw [hQ1, hy.2.2.2.1.2.1]) up_self ⟨n, q, hy⟩ (Nat.le_succ t)
      · exact PR.ok (w_told_ok l D n0 κ μ o _ _ _ (by decide) (by decide) _ _ (c_X4_told_4 l D n0 κ μ o )) (c_X5_told_4 l D n0 _ μ _ _ rfl) (by decide) (by decide) hN.2.2.2.2.2.1 up_self ⟨n, q, hy⟩ (Nat.le_succ t)
      · exact PR.ok (w_told_ok l D n0 κ μ o _ _ _ (by decide) (by decide) _ _ (c_X4_told_5 l D n0 κ μ o )) (c_X5_told_5 l D n0 _ μ _ _ rfl) (by decide) (by decide) hy.2.1.2.2.2.2.2.2.1 up_self ⟨n, q, hy⟩ (Nat.le_succ t)
      · exact PR.ok (w_told_ok l D n0 κ μ o _ _ _ (by decide) (by decide) _ _ (c_X4_told_6 l D n0 κ μ o )) (c_X5_told_6 l D n0 _ μ _ _ rfl) (by decide) (by decide) (by obtain ⟨cu, _, c1, c2⟩ := hy.2.1.2.2.2.2.1; rw [c1, c2]) up_self ⟨n, q, hy⟩ (Nat.le_succ t)
      · exact PR.ok (w_told_ok l D n0 κ μ o _ _ _ (by decide) (by decide) _ _ (c_X4_told_7 l D n0 κ μ o )) (c_X5_told_7 l D n0 _ μ _ _ rfl) (by decide) (by decide) hy.2.1.2.2.2.2.2.2.2 up_self ⟨n, q, hy⟩ (Nat.le_succ t)
      · exact PR.ok (w_told_ok l D n0 κ μ o _ _ _ (by decide) (by decide) _ _ (c_X4_told_8 l D n0 κ μ o )) (c_X5_told_8 l D n0 _ μ _ _ rfl) (by decide) (by decide) (by rw [vol_eq hy.1.1.2]; exact hy.1.1.1.2.2) up_self ⟨n, q, hy⟩ (Nat.le_succ t)
      · exact PR.ok (w_told_ok l D n0 κ μ o _ _ _ (by decide) (by decide) _ _ (c_X4_told_9 l D n0 κ μ o )) (c_X5_told_9 l D n0 _ μ _ _ rfl) (by decide) (by decide) (by rw [vol_eq hy.1.2.1.2]; exact hy.1.2.1.1.2.2) up_self ⟨n, q, hy⟩ (Nat.le_succ t)
      · exact PR.ok (w_told_ok l D n0 κ μ o _ _ _ (by decide) (by decide) _ _ (c_X4_told_10 l D n0 κ μ o )) (c_X5_told_10 l D n0 _ μ _ _ rfl) (by decide) (by decide) (by rw [vol_eq hy.1.2.2.2]; exact hy.1.2.2.1.2.2) up_self ⟨n, q, hy⟩ (Nat.le_succ t)
      · exact PR.ok (w_told_ok l D n0 κ μ o _ _ _ (by decide) (by decide) _ _ (c_X4_told_11 l D n0 κ μ o )) (c_X5_told_11 l D n0 _ μ _ _ rfl) (by decide) (by decide) (by rw [hN.2.1]) up_self ⟨n, q, hy⟩ (Nat.le_succ t)
      · exact PR.ok (w_told_ok l D n0 κ μ o _ _ _ (by decide) (by decide) _ _ (c_X4_told_12 l D n0 κ μ o )) (c_X5_told_12 l D n0 _ μ _ _ rfl) (by decide) (by decide) hN.2.2.2.2.1 up_self ⟨n, q, hy⟩ (Nat.le_succ t)
      · exact PR.ok (w_told_ok l D n0 κ μ o _ _ _ (by decide) (by decide) _ _ (c_X4_told_13 l D n0 κ μ o )) (c_X5_told_13 l D n0 _ μ _ _ rfl) (by decide) (by decide) (left_eq hN) up_self ⟨n, q, hy⟩ (Nat.le_succ t)
    · exact PR.thr 1 (by decide +kernel) h (w_told_cIO l D n0 κ μ o _ _ _ (by decide) (by decide) (c_X4_told_t l hfl D n0 κ μ o _ (Or.inr (Int32.not_le.mp g2)))) (c_X5_told_x l D n0 _ μ _ _ (Or.inr (Int32.not_le.mp g2))) (by decide) (by decide)
set_option maxHeartbeats 1000000 in
theorem s_mark {l : Launch} (D : DD) (n0 : Nat) {κ μ : KH} {n q t : Nat} (h : RR κ μ n q t) (o : Int64) (p0 p1 : Int32) : PB (fun f w κ' r => HM l D n0 yX4_mark cX4_mark 3 (some .boolean) f w [.ref (n0 + 0), .int p0, .int p1] (κ, μ, o) (some (.int r)) (κ', μ, o)) (fun f w κ' b μ' => HM l D n0 yX5_mark cX5_mark 3 (some .boolean) f w [.ref (n0 + 113), .int p0, .int p1] (κ', μ, o) (some (.int b)) (κ', μ', o)) t := by
  have h3 := h.1
  have hP := h.2.1
  have hn := hP.2.2.2.1
  have hy := h.up0 0
  obtain ⟨hQ1, hQ2, hQ8, hQ4⟩ := h.2.2.2.1
  have e7 : κ 1 0 = (up μ 0 0 0) 7 0 := hy.1.1.2.2
  by_cases he : κ 1 0 = p0
  · exact PB.ok (c_X4_mark l D n0 κ μ o _ p1 he) (c_X5_mark l D n0 _ μ _ _ p1 _ rfl (by rw [← e7]; exact he)) rfl (by decide) (by decide) (by decide) (by decide) ⟨n, q, RR_mark hy⟩ (Nat.le_succ t)
  · exact PB.ok (c_X4_mark_n l D n0 κ μ o _ p1 he) (c_X5_mark_n l D n0 _ μ _ _ p1 _ rfl (by rw [← e7]; exact he)) rfl (by decide) (by decide) (by decide) (by decide) ⟨n, q, hy⟩ (Nat.le_succ t)
set_option maxHeartbeats 1000000 in
theorem s_commit {l : Launch} (D : DD) (n0 : Nat) {κ μ : KH} {n q t : Nat} (h : RR κ μ n q t) (o : Int64) : PB (fun f w κ' r => HM l D n0 yX4_commit cX4_commit 1 (some .int) f w [.ref (n0 + 0)] (κ, μ, o) (some (.int r)) (κ', μ, o)) (fun f w κ' b μ' => HM l D n0 yX5_commit cX5_commit 1 (some .int) f w [.ref (n0 + 113)] (κ', μ, o) (some (.int b)) (κ', μ', o)) t := by
  have h3 := h.1
  have hP := h.2.1
  have hn := hP.2.2.2.1
  have hy := h.up0 0
  obtain ⟨hQ1, hQ2, hQ8, hQ4⟩ := h.2.2.2.1
  have hR := RR_commit hy
  have hS := sim_serve hR
  have hb : cServe (cHd κ) 0 12 = mDrain (up (mCp (up μ 0 0 0) 0 1) 0 22 (mCp (up μ 0 0 0) 0 1 0 22 + 1)) 0 22 := by
    obtain ⟨n2, q2, hh⟩ := hS
    exact hh.2.2.2.2.2.1.2.2.2.2.2.2.1
  exact PB.ok (c_X4_commit l D n0 κ μ o (h01_of h3) hR.cDs) (c_X5_commit l D n0 _ μ _ _ rfl hy.2.2.2.2.2.2.2 hR.mDs) hb (by decide) (by decide) (by decide) (by decide) hS (Nat.le_succ t)
set_option maxHeartbeats 1000000 in
theorem s_release {l : Launch} (D : DD) (n0 : Nat) {κ μ : KH} {n q t : Nat} (h : RR κ μ n q t) (o : Int64) : PB (fun f w κ' r => HM l D n0 yX4_release cX4_release 2 (some .boolean) f w [.ref (n0 + 0)] (κ, μ, o) (some (.int r)) (κ', μ, o)) (fun f w κ' b μ' => HM l D n0 yX5_release cX5_release 2 (some .boolean) f w [.ref (n0 + 113)] (κ', μ, o) (some (.int b)) (κ', μ', o)) t := by
  have h3 := h.1
  have hP := h.2.1
  have hn := hP.2.2.2.1
  have hy := h.up0 0
  obtain ⟨hQ1, hQ2, hQ8, hQ4⟩ := h.2.2.2.1
  have hR := RR_release hy
  have hN := hy.2.2.2.2.2.1
  exact PB.ok (c_X4_release l D n0 κ μ o hN.1.1 hR.cDs) (c_X5_release l D n0 _ μ _ _ rfl (by rw [← hN.2.1]; exact hN.1.1) hR.mDs) hN.2.1 (by decide) (by decide) (by decide) (by decide) (sim_serve hR) (Nat.le_succ t)
