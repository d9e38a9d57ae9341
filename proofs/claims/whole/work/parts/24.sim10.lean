/-! a volume is dropped -/
theorem cRm_hi {κ : KH} {v : Int32} {c : Nat} (hc : c = 109 ∨ c = 110 ∨ c = 111) : ∀ i m, i ≤ m → (cRm κ v i).1 c m = κ c m
  | 0, _, _ => rfl
  | i + 1, m, h => by
    have ih := cRm_hi (κ := κ) (v := v) hc i m (by omega)
    have hle := cRm_le κ v i
    rw [cRm]
    split
    · exact ih
    · show cPut _ _ _ _ _ c m = _
      have hm : m ≠ (cRm κ v i).2 := by omega
      unfold cPut
      rw [up_ix hm, up_ix hm, up_ix hm]; exact ih
theorem cRm_mem {κ : KH} {v : Int32} : ∀ i m, m < (cRm κ v i).2 → ∃ k, k < i ∧ (cRm κ v i).1 109 m = κ 109 k ∧ (cRm κ v i).1 110 m = κ 110 k ∧ (cRm κ v i).1 111 m = κ 111 k ∧ κ 109 k ≠ v
  | 0, m, h => absurd h (by rw [cRm]; exact Nat.not_lt_zero m)
  | i + 1, m, h => by
    have k1 := cRm_hi (κ := κ) (v := v) (Or.inl rfl) i i (Nat.le_refl i)
    have k2 := cRm_hi (κ := κ) (v := v) (Or.inr (Or.inl rfl)) i i (Nat.le_refl i)
    have k3 := cRm_hi (κ := κ) (v := v) (Or.inr (Or.inr rfl)) i i (Nat.le_refl i)
    by_cases hv : (cRm κ v i).1 109 i = v
    · have hr : cRm κ v (i + 1) = cRm κ v i := by rw [cRm, if_pos hv]
      rw [hr] at h ⊢
      obtain ⟨k, a, b⟩ := cRm_mem i m h
      exact ⟨k, by omega, b⟩
    · have hr : cRm κ v (i + 1) = (cPut (cRm κ v i).1 (cRm κ v i).2 ((cRm κ v i).1 109 i) ((cRm κ v i).1 110 i) ((cRm κ v i).1 111 i), (cRm κ v i).2 + 1) := by rw [cRm, if_neg hv]
      rw [hr] at h ⊢
      dsimp only at h ⊢
      rw [k1, k2, k3]
      by_cases hm : m = (cRm κ v i).2
      · rw [k1] at hv
        refine ⟨i, by omega, ?_, ?_, ?_, hv⟩
        · rw [hm]; simp [cPut, up]
        · rw [hm]; simp [cPut, up]
        · rw [hm]; simp [cPut, up]
      · obtain ⟨k, a, b1, b2, b3, b4⟩ := cRm_mem (κ := κ) (v := v) i m (by omega)
        refine ⟨k, by omega, ?_, ?_, ?_, b4⟩
        · rw [← b1]; simp [cPut, up, hm]
        · rw [← b2]; simp [cPut, up, hm]
        · rw [← b3]; simp [cPut, up, hm]
theorem RR_dq {κ μ : KH} {n q t j : Nat} (h : RR κ μ n q t) (hj : j < 16) : RR (cDp0 κ j q) (mDq j q 0 μ) n (cRm κ (nI j) q).2 t ∧ ∀ k, k < (cRm κ (nI j) q).2 → cDp0 κ j q 109 k ≠ nI j := by
  obtain ⟨h3, hP, hW, ⟨q1, q2, q3, q4⟩, hV, hN, hX, hB⟩ := h
  have hle := cRm_le κ (nI j) q
  obtain ⟨y, hy, yc, ya, y21, y23, ym⟩ := dq_eq (κ := κ) (μ := μ) (n := q) (j := j) q 0 μ (by omega) (fun _ _ _ _ _ => rfl) (fun _ _ _ => rfl) (by rw [Nat.zero_sub]; rw [show nI 0 = 0 from rfl]; simp) (by rw [q2]; congr 1; show q = 0 + q; omega) (fun m hm => absurd hm (Nat.not_lt_zero m)) (fun m hm => by
    obtain ⟨a1, a2, a3⟩ := q4 m hm
    show μ 10 (0 + m) = κ 109 (0 + m) ∧ μ 11 (0 + m) = κ 110 (0 + m) ∧ μ 12 (0 + m) = κ 111 (0 + m)
    rw [Nat.zero_add]; exact ⟨a1.symm, a2.symm, a3.symm⟩) (fun m _ => ⟨rfl, rfl, rfl⟩)
  have hy2 : y = mDq j q 0 μ := hy
  rw [← hy2]
  have kc : ∀ c, c ≠ 0 → c ≠ 108 → c ≠ 109 → c ≠ 110 → c ≠ 111 → cDp0 κ j q c = κ c := fun c a b d e f => cDp0_o a b d e f
  have k9 : ∀ c, c = 109 ∨ c = 110 ∨ c = 111 → ∀ m, cDp0 κ j q c m = (cRm κ (nI j) q).1 c m := fun c hc m => by
    unfold cDp0
    rw [up_cell (by omega), up_cell (by omega)]
  have k0 : ∀ i, i ≠ 11 → cDp0 κ j q 0 i = κ 0 i := fun i hi => by
    unfold cDp0
    rw [up_ix hi, up_cell (by decide), cRm_o κ (nI j) 0 (by decide) (by decide) (by decide)]
  have k11 : cDp0 κ j q 0 11 = κ 0 11 + nI (q - (cRm κ (nI j) q).2) := by unfold cDp0; exact up_self
  have k8 : cDp0 κ j q 108 0 = nI (cRm κ (nI j) q).2 := by unfold cDp0; rw [up_cell (by decide), up_self]
  refine ⟨⟨h3.same (fun c a b => kc c (by omega) (by omega) (by omega) (by omega) (by omega)) (fun c a b => yc c (by omega) (by omega) (by omega) (by omega)), ?_, ⟨fun i hi => ?_, fun i hi => ?_⟩, ⟨k8, y23, by omega, fun k hk => ?_⟩, fun k hk => ?_, ?_, fun i => ?_, hB.cg (yc 1 (by decide) (by decide) (by decide) (by decide)) (yc 3 (by decide) (by decide) (by decide) (by decide))⟩, fun k hk => ?_⟩
  · unfold RP
    rw [kc 106 (by decide) (by decide) (by decide) (by decide) (by decide), ya 9 (by decide) (by decide), ya 12 (by decide) (by decide), ya 13 (by decide) (by decide), ya 14 (by decide) (by decide), ya 15 (by decide) (by decide)]
    exact hP
  · rw [kc 107 (by decide) (by decide) (by decide) (by decide) (by decide), yc 8 (by decide) (by decide) (by decide) (by decide)]; exact hW.1 i hi
  · rw [kc 112 (by decide) (by decide) (by decide) (by decide) (by decide), yc 9 (by decide) (by decide) (by decide) (by decide)]; exact hW.2 i hi
  · obtain ⟨z1, z2, z3⟩ := ym k hk
    rw [k9 109 (by omega), k9 110 (by omega), k9 111 (by omega), z1, z2, z3]; exact ⟨rfl, rfl, rfl⟩
  · obtain ⟨m, hm, z1, z2, z3, z4⟩ := cRm_mem q k hk
    obtain ⟨v, w, z, a1, a2, a3, a4, a5, a6, a7⟩ := hV m hm
    have hl := cVk_lt a1
    have hcv : cDp0 κ j q (cVk v) = κ (cVk v) := kc _ (by omega) (by omega) (by omega) (by omega) (by omega)
    exact ⟨v, w, z, a1, by rw [k9 109 (by omega), z1]; exact a2, by rw [hcv]; exact a3, by rw [k9 110 (by omega), z2]; exact a4, by rw [hcv]; exact a5, a6, a7⟩
  · obtain ⟨a1, a2, a3, a4, a5, a6, a7, a8, T, b1, b2, b3⟩ := hN
    unfold RN
    rw [k0 6 (by decide), k0 7 (by decide), k0 8 (by decide), k0 9 (by decide), k0 10 (by decide), k0 12 (by decide), k11, ya 8 (by decide) (by decide), ya 16 (by decide) (by decide), ya 17 (by decide) (by decide), ya 18 (by decide) (by decide), ya 19 (by decide) (by decide), ya 20 (by decide) (by decide), ya 22 (by decide) (by decide), y21]
    exact ⟨a1, a2, a3, a4, a5, by rw [a6], a7, a8, T, b1, b2, b3⟩
  · rw [yc 6 (by decide) (by decide) (by decide) (by decide)]; exact hX i
  · obtain ⟨m, hm, z1, z2, z3, z4⟩ := cRm_mem q k hk
    rw [k9 109 (by omega), z1]; exact z4
theorem RR_drop {κ μ : KH} {n q t j : Nat} (h : RR κ μ n q t) (hj : j < 16) (h0 : κ (cVk j) 0 ≠ 0) : RR (cDp κ j q) (up (mDq j q 0 μ) 1 j 0) n (cRm κ (nI j) q).2 t ∧ cDp0 κ j q (cVk j) 5 - cDp1 κ j q (cVk j) 5 = nI (mMap μ j) := by
  obtain ⟨hr, hne⟩ := RR_dq h hj
  have hk := isVk hj
  have hl := cVk_lt hj
  have hn := hr.2.1.2.2.2.1
  have e0 : cDp0 κ j q (cVk j) = κ (cVk j) := cDp0_o (by omega) (by omega) (by omega) (by omega) (by omega)
  have h0' : cDp0 κ j q (cVk j) 0 ≠ 0 := by rw [e0]; exact h0
  have hC1 : CI (cDp1 κ j q) 1 n := CI_cUm (v := j) okS1 hj hn hr.1.1.1 (Nat.le_refl _)
  have hz1 : ∀ p, p < 40 → cDp1 κ j q (cVk j + 1) p = -1 := fun p hp => by
    unfold cDp1
    rw [cUm_at okS1 hk (Nat.zero_le _), if_pos ⟨Nat.zero_le _, hp⟩]
  have hC2 : CI (cDp κ j q) 1 n := CI_rem (v := j) okS1 hj hC1 (by show cDp1 κ j q (cVk j) 0 ≠ 0; unfold cDp1; rw [cUm_ff okS1 hk hk (by decide)]; exact h0') hz1
  have kc : ∀ c, c ≠ 1 → c ≠ 35 → c ≠ cVk j → c ≠ cVk j + 1 → cDp κ j q c = cDp0 κ j q c := fun c a b d e => by
    unfold cDp cDp1
    rw [up_cell a, cVz_o _ d e, cUm_o b d e]
  refine ⟨?_, ?_⟩
  · refine RR_st hr (R3_live hr.1 hj hC2 (fun c a b => kc c (by omega) (by omega) (by omega) (by omega)) (fun v' hv' hvv => ⟨kc _ (by have := cVk_lt hv'; omega) (by have := cVk_lt hv'; omega) (by unfold cVk; omega) (by unfold cVk; omega), kc _ (by have := cVk_lt hv'; omega) (by have := cVk_lt hv'; omega) (by unfold cVk; omega) (by unfold cVk; omega)⟩) ?_ (fun c i a b hi => up_ix hi) (fun i _ => by rw [up_cell (by decide)]) (up_cell (by decide)) ⟨?_, fun z => absurd ?_ z⟩) (fun c hc => kc c (by omega) (by omega) (by omega) (by omega)) (fun c hc => up_cell (by omega)) (fun k hk9 => ?_) (fun i => by rw [up_cell (by decide)]; exact hr.2.2.2.2.2.2.1 i) (fun i => ?_)
    · unfold cDp cDp1
      rw [up_ix (by decide), cVz_o _ (by omega) (by omega), cUm_o (by omega) (by omega) (by omega)]
    · unfold cDp
      rw [up_cell (by omega), cVz_f, if_pos (by omega), up_self]
    · unfold cDp
      rw [up_cell (by omega), cVz_f, if_pos (by omega)]
    · obtain ⟨v, w, z, a1, a2, a3, a4, a5, a6, a7⟩ := hr.2.2.2.2.1 k hk9
      have hvj : v ≠ j := fun zz => hne k hk9 (by rw [a2, zz])
      have hcv : cDp κ j q (cVk v) = cDp0 κ j q (cVk v) := kc _ (by have := cVk_lt a1; omega) (by have := cVk_lt a1; omega) (by unfold cVk; omega) (by unfold cVk; omega)
      exact ⟨v, w, z, a1, by rw [kc 109 (by omega) (by omega) (by omega) (by omega)]; exact a2, by rw [hcv]; exact a3, by rw [kc 110 (by omega) (by omega) (by omega) (by omega)]; exact a4, by rw [hcv]; exact a5, a6, a7⟩
    · have hb := hr.2.2.2.2.2.2.2 i
      rw [up_cell (show (3 : Nat) ≠ 1 by decide)]
      refine ⟨?_, hb.2⟩
      by_cases hij : i = j
      · subst hij; rw [up_self]; exact Or.inl rfl
      · rw [up_ix hij]; exact hb.1
  · have hc := um_cnt (a := 0) (b := 40) (c := 40) hr.1 hn hj h0' (Nat.zero_le _) (Nat.le_refl _) (Nat.le_refl _) (fun p a b => absurd b (by omega))
    have hc2 : cDp0 κ j q (cVk j) 5 - cDp1 κ j q (cVk j) 5 = nI (mUmC (mDq j q 0 μ) j 0 40) := hc
    rw [hc2]
    refine congrArg nI ?_
    have hm := map_eq hr.1 hj h0'
    have hm2 := map_eq h.1 hj h0
    have he1 : cDp0 κ j q (cVk j + 1) = κ (cVk j + 1) := cDp0_o (by omega) (by omega) (by omega) (by omega) (by omega)
    have hm3 : cMp (cDp0 κ j q) (cVk j) = cMp κ (cVk j) := cMp_cg (fun p _ => by rw [he1])
    rw [hm2, ← hm3, ← hm]
    unfold mUmC mMap
    exact sumTo_congr _ (fun i hi => by rw [Nat.zero_add])
/-! what is told -/
section TOLD
variable {κ μ : KH} {n q t : Nat}
theorem read_eq {j w z : Nat} (h : RR κ μ n q t) (hj : j < 16) (h0 : κ (cVk j) 0 ≠ 0) (hw : w < 160) : cWord κ (cVk j) w = mWord μ j w := by
  obtain ⟨l1, l2, l3, l4, l5, _⟩ := live h.1.1.2 hj h0
  exact word_eq hw (l5 _ (by omega)) l1 (((CIv h.1.1.1 hj).2.2.2.1 _ (by omega)).mono h.2.1.2.2.2.1) h.2.2.1
theorem map_told {b s j p : Nat} (hC : CI κ b n) (hM : MR κ μ b s) (hj : j < 16) (hp : p < 40) : κ (b + 2 + 2 * j + 1) p = if μ 1 (16 * s + j) = 0 then -1 else μ 6 (40 * (16 * s + j) + p) := by
  obtain ⟨a1, a2⟩ := hM.1 j hj
  by_cases h0 : κ (b + 2 + 2 * j) 0 = 0
  · rw [if_pos (by rw [← a1]; exact h0)]; exact (hC.1 j hj).2.2.2.2.1 h0 p hp
  · rw [if_neg (by rw [← a1]; exact h0)]; exact (a2 h0).2.2.2.2.1 p hp
theorem last_eq {j : Nat} (h : RR κ μ n q t) (hj : j < 16) (h0 : κ (cVk j) 0 ≠ 0) : ∀ p, p ≤ 40 → cLast κ (cVk j) p = mLast μ j p
  | 0, _ => rfl
  | p + 1, hp => by
    rw [cLast, mLast, (live h.1.1.2 hj h0).2.2.2.2.1 p (by omega), last_eq h hj h0 p (by omega)]
theorem ns_eq {j : Nat} (h : RR κ μ n q t) (hj : j < 16) (h0 : κ (cVk j) 0 ≠ 0) : sumTo (cNs1 κ (cVk j)) 40 = sumTo (mNs1 μ j) 40 :=
  sumTo_congr 40 (fun p hp => by
    have hn := h.2.1.2.2.2.1
    unfold cNs1 mNs1
    rw [← (live h.1.1.2 hj h0).2.2.2.2.1 p hp]
    rcases (CIv h.1.1.1 hj).2.2.2.1 p hp with hx | ⟨e, he, hx⟩
    · rw [if_pos hx, if_pos hx]
    · rw [hx, tn_nI (by omega), sole_eq h.1 (by omega)])
theorem qc_eq {j : Nat} (h : RR κ μ n q t) : sumTo (cQ1 κ (nI j)) q = sumTo (mQv1 μ j) q :=
  sumTo_congr q (fun k hk => by unfold cQ1 mQv1; rw [(h.2.2.2.1.2.2.2 k hk).1])
theorem sort_eq {a b p : Nat} (h : RR κ μ n q t) (ha : a < 16) (hb : b < 16) (h1 : κ (cVk a) 0 ≠ 0) (h2 : κ (cVk b) 0 ≠ 0) (hp : p < 40) : cSort κ (cVk a) (cVk b) p = mSort μ a b p := by
  unfold cSort mSort
  rw [(live h.1.1.2 ha h1).2.2.2.2.1 p hp, (live h.1.1.2 hb h2).2.2.2.2.1 p hp]
theorem df_eq {a b : Nat} {x : Int32} (h : RR κ μ n q t) (ha : a < 16) (hb : b < 16) (h1 : κ (cVk a) 0 ≠ 0) (h2 : κ (cVk b) 0 ≠ 0) : sumTo (cDf1 κ (cVk a) (cVk b) x) 40 = sumTo (mDf1 μ a b x) 40 :=
  sumTo_congr 40 (fun p hp => by unfold cDf1 mDf1; rw [sort_eq h ha hb h1 h2 hp])
theorem rn_eq {a b : Nat} (h : RR κ μ n q t) (ha : a < 16) (hb : b < 16) (h1 : κ (cVk a) 0 ≠ 0) (h2 : κ (cVk b) 0 ≠ 0) : sumTo (cRn1 κ (cVk a) (cVk b)) 40 = sumTo (mRn1 μ a b) 40 :=
  sumTo_congr 40 (fun p hp => by
    unfold cRn1 mRn1
    rw [sort_eq h ha hb h1 h2 hp]
    by_cases hs : mSort μ a b p = -1
    · rw [if_pos hs, if_pos hs]
    · rw [if_neg hs, if_neg hs]
      cases p with
      | zero => rw [if_pos rfl, cBf, if_neg hs]
      | succ p =>
        rw [if_neg (Nat.succ_ne_zero p), cBf, sort_eq h ha hb h1 h2 (by omega), Nat.add_sub_cancel]
        by_cases hz : mSort μ a b (p + 1) = mSort μ a b p
        · rw [if_pos hz, if_pos hz.symm]
        · rw [if_neg hz, if_neg (fun z => hz z.symm)])
theorem hb_iff {b s : Nat} (hM : MR κ μ b s) : cHB κ b = true ↔ ∃ v, v < 16 ∧ μ 1 (16 * s + v) ≠ 0 ∧ μ 3 (16 * s + v) ≠ 0 := by
  unfold cHB
  rw [anyTo_iff]
  constructor
  · rintro ⟨v, hv, hf⟩
    unfold cBk at hf
    simp only [Bool.and_eq_true, Bool.not_eq_true', decide_eq_false_iff_not] at hf
    obtain ⟨a1, a2⟩ := hM.1 v hv
    exact ⟨v, hv, by rw [← a1]; exact hf.1, by rw [← (a2 hf.1).1]; exact hf.2⟩
  · rintro ⟨v, hv, h1, h3⟩
    obtain ⟨a1, a2⟩ := hM.1 v hv
    rw [← a1] at h1
    refine ⟨v, hv, ?_⟩
    unfold cBk
    simp only [Bool.and_eq_true, Bool.not_eq_true', decide_eq_false_iff_not]
    exact ⟨h1, by rw [(a2 h1).1]; exact h3⟩
theorem hb3_iff (h : R3 κ μ n) : (cHB κ 1 || cHB κ 36 || cHB κ 71) = true ↔ ∃ i, i < 48 ∧ μ 1 i ≠ 0 ∧ μ 3 i ≠ 0 := by
  rw [Bool.or_eq_true, Bool.or_eq_true, hb_iff h.1.2, hb_iff h.2.1.2, hb_iff h.2.2.2]
  constructor
  · rintro ((⟨v, hv, a⟩ | ⟨v, hv, a⟩) | ⟨v, hv, a⟩)
    · exact ⟨16 * 0 + v, by omega, a⟩
    · exact ⟨16 * 1 + v, by omega, a⟩
    · exact ⟨16 * 2 + v, by omega, a⟩
  · rintro ⟨i, hi, a⟩
    by_cases h1 : i < 16
    · exact Or.inl (Or.inl ⟨i, h1, by rw [show 16 * 0 + i = i by omega]; exact a⟩)
    · by_cases h2 : i < 32
      · exact Or.inl (Or.inr ⟨i - 16, by omega, by rw [show 16 * 1 + (i - 16) = i by omega]; exact a⟩)
      · exact Or.inr ⟨i - 32, by omega, by rw [show 16 * 2 + (i - 32) = i by omega]; exact a⟩
/-- users by volumes and then places -/
theorem sumTo_add {f : Nat → Nat} (a : Nat) : ∀ b, sumTo f (a + b) = sumTo f a + sumTo (fun i => f (a + i)) b
  | 0 => rfl
  | b + 1 => by rw [← Nat.add_assoc, sumTo, sumTo, sumTo_add a b]; omega
theorem u_at {e : Int32} (v p : Nat) (hp : p ≤ 40) : sumTo (cU1 κ 1 e) (40 * v + p) = sumTo (cGs κ 1 e) v + sumTo (cG κ (cVk v) e) p := by
  have hrow : ∀ v p, p ≤ 40 → sumTo (fun i => cU1 κ 1 e (40 * v + i)) p = sumTo (cG κ (cVk v) e) p := fun v p hp =>
    sumTo_congr p (fun i hi => by
      unfold cU1 cG cVk
      rw [show (40 * v + i) / 40 = v by omega, show (40 * v + i) % 40 = i by omega])
  have hv : ∀ v, sumTo (cU1 κ 1 e) (40 * v) = sumTo (cGs κ 1 e) v := fun v => by
    induction v with
    | zero => rfl
    | succ v ih =>
      rw [show 40 * (v + 1) = 40 * v + 40 by omega, sumTo_add, ih, hrow v 40 (Nat.le_refl _), sumTo]
      rfl
  rw [sumTo_add, hv, hrow v p hp]
theorem gs_eq {e : Nat} (h : R3 κ μ n) (he : e < 2 ^ 31) {v : Nat} (hv : v < 16) : cGs κ 1 (nI e) v = mF μ 0 (nI e) v := by
  obtain ⟨a1, a2⟩ := h.1.2.1 v hv
  unfold mF cGs
  by_cases h0 : κ (1 + 2 + 2 * v) 0 = 0
  · rw [if_pos (by rw [← a1]; exact h0)]
    exact sumTo_z 40 (fun p hp => by unfold cG; rw [(h.1.1.1 v hv).2.2.2.2.1 h0 p hp, if_neg (fun q => nI_m1 he q.symm)])
  · rw [if_neg (by rw [← a1]; exact h0)]
    refine sumTo_congr 40 (fun p hp => ?_)
    unfold mG cG
    rw [(a2 h0).2.2.2.2.1 p hp]
theorem u_eq {e v p : Nat} (h : R3 κ μ n) (he : e < 2 ^ 31) (hv : v < 16) (hp : p < 40) (h0 : κ (cVk v) 0 ≠ 0) : sumTo (cU1 κ 1 (nI e)) (40 * v + p) = sumTo (mF μ 0 (nI e)) v + sumTo (mG μ 0 v (nI e)) p := by
  rw [u_at v p (by omega), sumTo_congr v (fun v' hv' => gs_eq h he (show v' < 16 by omega))]
  congr 1
  refine sumTo_congr p (fun i hi => ?_)
  unfold cG mG
  rw [(live h.1.2 hv h0).2.2.2.2.1 i (by omega), show 16 * 0 + v = v by omega]
theorem at_live {e a : Nat} (h : R3 κ μ n) (he : e < 2 ^ 31) (ha : a < 640) : κ (1 + 2 + 2 * (a / 40) + 1) (a % 40) = nI e ↔ (μ 1 (a / 40) ≠ 0 ∧ μ 6 (40 * (a / 40) + a % 40) = nI e) := by
  have hv : a / 40 < 16 := by omega
  have hp : a % 40 < 40 := by omega
  have l0 := live0 h.1.2 hv
  constructor
  · intro hx
    have h0 : κ (cVk (a / 40)) 0 ≠ 0 := fun z => by
      have h8 := (CIv h.1.1 hv).2.2.2.2.1 z (a % 40) hp
      have hx2 : κ (cVk (a / 40) + 1) (a % 40) = nI e := hx
      exact nI_m1 he (hx2.symm.trans h8)
    refine ⟨by rw [← l0]; exact h0, ?_⟩
    rw [← (live h.1.2 hv h0).2.2.2.2.1 _ hp]; exact hx
  · rintro ⟨h1, h2⟩
    rw [← l0] at h1
    rw [← h2]
    exact (live h.1.2 hv h1).2.2.2.2.1 _ hp
end TOLD
