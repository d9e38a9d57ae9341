/-! the whole relation; those that wait; a write -/
def RQ (κ μ : KH) (q : Nat) : Prop := κ 108 0 = nI q ∧ μ 0 23 = nI q ∧ q ≤ 8 ∧ ∀ k, k < q → κ 109 k = μ 10 k ∧ κ 110 k = μ 11 k ∧ κ 111 k = μ 12 k
def QV (κ : KH) (q : Nat) : Prop := ∀ k, k < q → ∃ v w z : Nat, v < 16 ∧ κ 109 k = nI v ∧ κ (cVk v) 0 ≠ 0 ∧ κ 110 k = nI w ∧ κ (cVk v) 2 = nI z ∧ z ≤ 40 ∧ w < 4 * z
def RN (κ μ : KH) (t : Nat) : Prop := (is01 (κ 0 6) ∧ (κ 0 7 = 0 ∨ κ 0 7 = 1 ∨ κ 0 7 = 2)) ∧ κ 0 6 = μ 0 8 ∧ κ 0 7 = μ 0 16 ∧ κ 0 8 = μ 0 17 ∧ κ 0 10 = μ 0 20 ∧ κ 0 11 = μ 0 21 ∧ κ 0 12 = μ 0 22 ∧ (∃ P : Nat, P ≤ 1000 ∧ κ 0 8 = nI P) ∧ ∃ T : Nat, T ≤ 10000 * t ∧ κ 0 10 = nI T ∧ (κ 0 7 = 1 → ∃ L W : Nat, W < L ∧ L ≤ 1000 ∧ μ 0 18 = nI L ∧ μ 0 19 = nI W ∧ κ 0 9 = nI (T + (L - W)))
def RR (κ μ : KH) (n q t : Nat) : Prop := R3 κ μ n ∧ RP κ μ n ∧ RW κ μ ∧ RQ κ μ q ∧ QV κ q ∧ RN κ μ t ∧ (∀ j, isX (μ 6 j)) ∧ mB μ
def RO (κ μ : KH) (t : Nat) : Prop := ∃ n q : Nat, RR κ μ n q t
theorem mB.cg {μ μ' : KH} (h : mB μ) (h1 : μ' 1 = μ 1) (h3 : μ' 3 = μ 3) : mB μ' := fun i => by rw [h1, h3]; exact h i
section RRS
variable {κ κ' μ μ' : KH} {n q t t' : Nat}
theorem RR_0 (h : RR κ μ n q t) (hk : ∀ c, c ≠ 0 → κ' c = κ c) (hm : ∀ c, c ≠ 0 → μ' c = μ c) (h0 : ∀ i, (9 ≤ i ∧ i ≤ 15) ∨ i = 23 → μ' 0 i = μ 0 i) (hN : RN κ' μ' t') : RR κ' μ' n q t' := by
  obtain ⟨h3, hP, hW, hQ, hV, hN0, hX, hB⟩ := h
  refine ⟨h3.same (fun c h1 h2 => hk c (by omega)) (fun c h1 h2 => hm c (by omega)), ?_, ⟨fun i hi => ?_, fun i hi => ?_⟩, ?_, fun k hk9 => ?_, hN, fun j => ?_, ?_⟩
  · unfold RP
    rw [hk 106 (by decide), h0 9 (by omega), h0 12 (by omega), h0 13 (by omega), h0 14 (by omega), h0 15 (by omega)]
    exact hP
  · rw [hk 107 (by decide), hm 8 (by decide)]; exact hW.1 i hi
  · rw [hk 112 (by decide), hm 9 (by decide)]; exact hW.2 i hi
  · unfold RQ
    rw [hk 108 (by decide), hk 109 (by decide), hk 110 (by decide), hk 111 (by decide), h0 23 (by omega), hm 10 (by decide), hm 11 (by decide), hm 12 (by decide)]
    exact hQ
  · obtain ⟨v, w, z, a1, a2, a3, a4, a5, a6, a7⟩ := hV k hk9
    have := cVk_lt a1
    refine ⟨v, w, z, a1, ?_, ?_, ?_, ?_, a6, a7⟩
    · rw [hk 109 (by decide)]; exact a2
    · rw [hk (cVk v) (by omega)]; exact a3
    · rw [hk 110 (by decide)]; exact a4
    · rw [hk (cVk v) (by omega)]; exact a5
  · rw [hm 6 (by decide)]; exact hX j
  · exact hB.cg (hm 1 (by decide)) (hm 3 (by decide))
theorem RN.up0 (h : RN κ μ t) (x : Int32) : RN κ (up μ 0 0 x) t := by
  unfold RN
  rw [up_ix (show (8 : Nat) ≠ 0 by decide), up_ix (show (16 : Nat) ≠ 0 by decide), up_ix (show (17 : Nat) ≠ 0 by decide), up_ix (show (20 : Nat) ≠ 0 by decide), up_ix (show (21 : Nat) ≠ 0 by decide), up_ix (show (22 : Nat) ≠ 0 by decide), up_ix (show (18 : Nat) ≠ 0 by decide), up_ix (show (19 : Nat) ≠ 0 by decide)]
  exact h
theorem RN.mono (h : RN κ μ t) (ht : t ≤ t') : RN κ μ t' := by
  obtain ⟨a1, a2, a3, a4, a5, a6, a7, a8, T, b1, b2⟩ := h
  exact ⟨a1, a2, a3, a4, a5, a6, a7, a8, T, by omega, b2⟩
theorem RR.up0 (h : RR κ μ n q t) (x : Int32) : RR κ (up μ 0 0 x) n q t :=
  RR_0 h (fun _ _ => rfl) (fun c hc => up_cell hc) (fun i hi => up_ix (by omega)) (h.2.2.2.2.2.1.up0 x)
theorem RR.mono (h : RR κ μ n q t) (ht : t ≤ t') : RR κ μ n q t' := ⟨h.1, h.2.1, h.2.2.1, h.2.2.2.1, h.2.2.2.2.1, h.2.2.2.2.2.1.mono ht, h.2.2.2.2.2.2⟩
theorem RO.up0 (h : RO κ μ t) (x : Int32) : RO κ (up μ 0 0 x) t := ⟨_, _, h.choose_spec.choose_spec.up0 x⟩
theorem RO.mono (h : RO κ μ t) (ht : t ≤ t') : RO κ μ t' := ⟨_, _, h.choose_spec.choose_spec.mono ht⟩
/-- cells that the numbers are asked of -/
theorem RN.cg (h : RN κ μ t) (hk : ∀ i, 6 ≤ i → i ≤ 12 → κ' 0 i = κ 0 i) (hm : ∀ i, i = 8 ∨ (16 ≤ i ∧ i ≤ 22) → μ' 0 i = μ 0 i) : RN κ' μ' t := by
  unfold RN
  rw [hk 6 (by omega) (by omega), hk 7 (by omega) (by omega), hk 8 (by omega) (by omega), hk 9 (by omega) (by omega), hk 10 (by omega) (by omega), hk 11 (by omega) (by omega), hk 12 (by omega) (by omega), hm 8 (by omega), hm 16 (by omega), hm 17 (by omega), hm 18 (by omega), hm 19 (by omega), hm 20 (by omega), hm 21 (by omega), hm 22 (by omega)]
  exact h
theorem RR_fail (h : RR κ μ n q t) (c : Int32) : RR (up κ 0 11 (κ 0 11 + c)) (up μ 0 21 (μ 0 21 + c)) n q t := by
  refine RR_0 h (fun c hc => up_cell hc) (fun c hc => up_cell hc) (fun i hi => up_ix (by omega)) ?_
  obtain ⟨a1, a2, a3, a4, a5, a6, a7, a8, T, b1, b2, b3⟩ := h.2.2.2.2.2.1
  exact ⟨a1, a2, a3, a4, a5, by rw [up_self, up_self, a6], a7, a8, T, b1, b2, b3⟩
theorem RR_m0 (h : RR κ μ n q t) : RR (up κ 0 7 0) (up μ 0 16 0) n q t := by
  refine RR_0 h (fun c hc => up_cell hc) (fun c hc => up_cell hc) (fun i hi => up_ix (by omega)) ?_
  obtain ⟨a1, a2, a3, a4, a5, a6, a7, a8, T, b1, b2, b3⟩ := h.2.2.2.2.2.1
  exact ⟨⟨a1.1, Or.inl up_self⟩, a2, by rw [up_self, up_self], a4, a5, a6, a7, a8, T, b1, b2, fun z => absurd z (by rw [up_self]; decide +kernel)⟩
theorem RR.qs (h : RR κ μ n q t) : nQc κ = q ∧ nQ μ = q := by
  obtain ⟨q1, q2, q3, q4⟩ := h.2.2.2.1
  unfold nQc nQ
  rw [q1, q2]
  exact ⟨tn_nI (by omega), tn_nI (by omega)⟩
end RRS
theorem cSet_ff {κ : KH} {b k p c f : Nat} {x : Int32} (hb : isS b) (hk : isV k) (hc : isV c) (hf : f ≠ 5) : cSet κ b k p x c f = κ c f := by
  have h1 := (isS_b hb hc).2.2.1
  have h2 := (isS_b hb hk).2.2.1
  by_cases hck : c = k
  · subst hck; exact cSetf h1 hf
  · rw [cSet_o h1 hck (isV_par hc hk)]
theorem cPerf_ff {κ : KH} {k w c f : Nat} {x : Int32} (hk : isV k) (hc : isV c) (hf : f ≠ 5) : cPerf κ k w x c f = κ c f := by
  have hb := isV_lo hc
  unfold cPerf
  split
  · rw [up_cell (by omega)]
  · have h : cPm1 κ k w x c f = κ c f := by unfold cPm1; rw [cSet_ff okS1 hk hc hf, cPm0_o (by omega) (by omega)]
    unfold cPm2
    split
    · rw [up_cell (by omega), h]
    · exact h
section RRS2
variable {κ κ' μ μ' : KH} {n q t : Nat}
theorem QV.cg (h : QV κ q) (h1 : κ' 109 = κ 109) (h2 : κ' 110 = κ 110) (h3 : ∀ v, v < 16 → κ' (cVk v) 0 = κ (cVk v) 0) (h4 : ∀ v, v < 16 → κ' (cVk v) 2 = κ (cVk v) 2) : QV κ' q := fun k hk => by
  obtain ⟨v, w, z, a1, a2, a3, a4, a5, a6, a7⟩ := h k hk
  exact ⟨v, w, z, a1, by rw [h1]; exact a2, by rw [h3 v a1]; exact a3, by rw [h2]; exact a4, by rw [h4 v a1]; exact a5, a6, a7⟩
theorem RQ.cg (h : RQ κ μ q) (hk : ∀ c, 108 ≤ c → c ≤ 111 → κ' c = κ c) (hm : ∀ c, 10 ≤ c → c ≤ 12 → μ' c = μ c) (h0 : μ' 0 23 = μ 0 23) : RQ κ' μ' q := by
  unfold RQ
  rw [hk 108 (by omega) (by omega), hk 109 (by omega) (by omega), hk 110 (by omega) (by omega), hk 111 (by omega) (by omega), h0, hm 10 (by omega) (by omega), hm 11 (by omega) (by omega), hm 12 (by omega) (by omega)]
  exact h
theorem RR_unq (h : RR κ μ n (q + 1) t) : RR (cUq κ q) (mUnq μ q 0) n q t := by
  obtain ⟨h3, hP, hW, ⟨q1, q2, q3, q4⟩, hV, hN0, hX, hB⟩ := h
  have kc : ∀ c, c < 108 ∨ 111 < c → cUq κ q c = κ c := fun c hc => cUq_o (by omega) (by omega) (by omega) (by omega)
  have mc : ∀ c, c ≠ 0 → c < 10 → mUnq μ q 0 c = μ c := fun c h0 hc => mUnq_o μ q 0 c h0 (by omega) (by omega) (by omega)
  have m0 : ∀ i, i ≠ 23 → mUnq μ q 0 0 i = μ 0 i := fun i hi => by rw [mUnq_0, if_neg hi]
  refine ⟨h3.same (fun c h1 h2 => kc c (by omega)) (fun c h1 h2 => mc c (by omega) (by omega)), ?_, ⟨fun i hi => ?_, fun i hi => ?_⟩, ⟨cUq_0, by rw [mUnq_0, if_pos rfl], by omega, fun k hk => ?_⟩, fun k hk => ?_, hN0.cg (fun i _ _ => by rw [kc 0 (by omega)]) (fun i hi => m0 i (by omega)), fun j => ?_, hB.cg (mc 1 (by omega) (by omega)) (mc 3 (by omega) (by omega))⟩
  · unfold RP
    rw [kc 106 (by omega), m0 9 (by omega), m0 12 (by omega), m0 13 (by omega), m0 14 (by omega), m0 15 (by omega)]
    exact hP
  · rw [kc 107 (by omega), mc 8 (by omega) (by omega)]; exact hW.1 i hi
  · rw [kc 112 (by omega), mc 9 (by omega) (by omega)]; exact hW.2 i hi
  · rw [cUq_q κ q 109 (Or.inl rfl) k, cUq_q κ q 110 (Or.inr (Or.inl rfl)) k, cUq_q κ q 111 (Or.inr (Or.inr rfl)) k, mUnq_q μ q 0 10 (Or.inl rfl) k (by omega), mUnq_q μ q 0 11 (Or.inr (Or.inl rfl)) k (by omega), mUnq_q μ q 0 12 (Or.inr (Or.inr rfl)) k (by omega), if_pos hk, if_pos hk, if_pos hk, if_pos ⟨by omega, hk⟩, if_pos ⟨by omega, hk⟩, if_pos ⟨by omega, hk⟩]
    exact q4 (k + 1) (by omega)
  · obtain ⟨v, w, z, a1, a2, a3, a4, a5, a6, a7⟩ := hV (k + 1) (by omega)
    have := cVk_lt a1
    refine ⟨v, w, z, a1, ?_, ?_, ?_, ?_, a6, a7⟩
    · rw [cUq_q κ q 109 (Or.inl rfl) k, if_pos hk]; exact a2
    · rw [kc (cVk v) (by omega)]; exact a3
    · rw [cUq_q κ q 110 (Or.inr (Or.inl rfl)) k, if_pos hk]; exact a4
    · rw [kc (cVk v) (by omega)]; exact a5
  · rw [mc 6 (by omega) (by omega)]; exact hX j
theorem RR_perf {v w z : Nat} {x : Int32} (h : RR κ μ n q t) (hv : v < 16) (h0 : κ (cVk v) 0 ≠ 0) (hz : κ (cVk v) 2 = nI z) (hz40 : z ≤ 40) (hw : w < 4 * z) (hf : mNeed μ v (w / 4) = true → mFM μ n ≠ 0) :
    RR (cPerf κ (cVk v) w x) (mPerf μ v w x) n q t ∧ cPerR κ (cVk v) w = mPerR μ v w := by
  obtain ⟨h3, hP, hW, hQ, hV, hN0, hX, hB⟩ := h
  obtain ⟨p1, p2, p3, p4⟩ := sim_perf (x := x) h3 hP hW hX hv h0 hz hz40 hw hf
  have hk := isVk hv
  have hl := cVk_lt hv
  have kc : ∀ c, c = 0 ∨ 108 ≤ c → cPerf κ (cVk v) w x c = κ c := fun c hc => cPerf_o (by omega) (by omega) (by omega) (by omega) (by omega)
  have mc : ∀ c, c ≠ 0 → c ≠ 6 → c ≠ 8 → mPerf μ v w x c = μ c := fun c h0 h6 h8 => mPerf_oth μ v w c x h0 h6 h8
  have m0 : ∀ i, i ≠ 12 → i ≠ 14 → i ≠ 15 → mPerf μ v w x 0 i = μ 0 i := fun i a b c => mPerf_0 μ v w i x a b c
  refine ⟨⟨p1, p2, p3, hQ.cg (fun c h1 h2 => kc c (by omega)) (fun c h1 h2 => mc c (by omega) (by omega) (by omega)) (m0 23 (by omega) (by omega) (by omega)), hV.cg (kc 109 (by omega)) (kc 110 (by omega)) (fun v' hv' => cPerf_ff hk (isVk hv') (by decide)) (fun v' hv' => cPerf_ff hk (isVk hv') (by decide)), hN0.cg (fun i _ _ => by rw [kc 0 (by omega)]) (fun i hi => m0 i (by omega) (by omega) (by omega)), fun j => ?_, hB.cg (mc 1 (by omega) (by omega) (by omega)) (mc 3 (by omega) (by omega) (by omega))⟩, p4⟩
  rw [mPerf_6]
  split
  · rename_i hh
    have hEk := mTkE_ok (hP.mJ hX) (by rw [hP.nEe]; exact hf hh.1)
    rw [hP.nEe] at hEk
    have := hP.2.2.2.1
    exact Or.inr ⟨mTkE μ, by omega, rfl⟩
  · exact hX j
theorem RR.dC (h : RR κ μ n q t) : cD κ q := by
  obtain ⟨h3, hP, hW, ⟨q1, q2, q3, q4⟩, hV, hN0, hX, hB⟩ := h
  refine ⟨hP.cJ h3, q1, q3, fun k hk => ?_⟩
  obtain ⟨v, w, z, a1, a2, a3, a4, a5, a6, a7⟩ := hV k hk
  rw [a2, a4, tn_nI (by omega)]
  exact ⟨isN_nI a1 (by omega), isN_nI (by omega) (by omega), a3⟩
theorem RR.cDs (h : RR κ μ n q t) : cD κ (nQc κ) := by rw [h.qs.1]; exact h.dC
theorem RR.dM (h : RR κ μ n q t) : mD μ q := by
  obtain ⟨h3, hP, hW, ⟨q1, q2, q3, q4⟩, hV, hN0, hX, hB⟩ := h
  refine ⟨hP.mJ hX, q2, q3, fun k hk => ?_⟩
  obtain ⟨v, w, z, a1, a2, a3, a4, a5, a6, a7⟩ := hV k hk
  obtain ⟨b1, b2, b3⟩ := q4 k hk
  rw [← b1, ← b2, a2, a4]
  exact ⟨isN_nI a1 (by omega), isN_nI (by omega) (by omega)⟩
theorem RR.mDs (h : RR κ μ n q t) : mD μ (nQ μ) := by rw [h.qs.2]; exact h.dM
end RRS2
theorem sim_dr {n t : Nat} : ∀ (q : Nat) (κ μ : KH), RR κ μ n q t → RO (cDr q κ) (mDr q μ) t
  | 0, κ, μ, h => ⟨n, 0, RR_m0 h⟩
  | q + 1, κ, μ, h => by
    obtain ⟨h3, hP, hW, ⟨q1, q2, q3, q4⟩, hV, hN0, hX, hB⟩ := id h
    obtain ⟨v, w, z, a1, a2, a3, a4, a5, a6, a7⟩ := hV 0 (by omega)
    obtain ⟨b1, b2, b3⟩ := q4 0 (by omega)
    have e1 : tn (κ 109 0) = v := by rw [a2]; exact tn_nI (by omega)
    have e2 : tn (κ 110 0) = w := by rw [a4]; exact tn_nI (by omega)
    have hn := hP.2.2.2.1
    have ho := over_eq (p := w / 4) h3 a1 (by omega) a3
    have hne := need_eq (p := w / 4) h3 hn a1 (by omega) a3
    rw [cDr, mDr, ← b1, ← b2, ← b3, e1, e2, ho, hne, hP.nCe, hP.nEe, fm_eq h3 hn]
    by_cases c1 : mOver μ v (w / 4) = true
    · rw [if_pos c1, if_pos c1]
      exact sim_dr q _ _ (RR_unq (RR_fail h 1))
    · rw [if_neg c1, if_neg c1]
      by_cases c2 : mNeed μ v (w / 4) = true ∧ mFM μ n = 0
      · rw [if_pos c2, if_pos c2, up_id]
        exact ⟨n, q + 1, h⟩
      · rw [if_neg c2, if_neg c2]
        exact sim_dr q _ _ (RR_unq (RR_perf h a1 a3 a5 a6 a7 (fun z1 z2 => c2 ⟨z1, z2⟩)).1)
theorem sim_serve {κ μ : KH} {n q t : Nat} (h : RR κ μ n q t) : RO (cServe κ) (mDrain μ) t := by
  have hm : κ 0 7 = μ 0 16 := h.2.2.2.2.2.1.2.2.1
  unfold cServe mDrain
  rw [hm, h.qs.1, h.qs.2]
  by_cases c : μ 0 16 = 1
  · rw [if_pos c, if_pos c]; exact sim_dr q κ μ h
  · rw [if_neg c, if_neg c, up_id]; exact ⟨n, q, h⟩
/-! a write that comes to the queue -/
theorem RR_enq {κ μ : KH} {n q t v w z : Nat} {x : Int32} (h : RR κ μ n q t) (hq : q < 8) (hv : v < 16) (h0 : κ (cVk v) 0 ≠ 0) (hz : κ (cVk v) 2 = nI z) (hz40 : z ≤ 40) (hw : w < 4 * z) : RR (up (cPut κ q (nI v) (nI w) x) 108 0 (nI (q + 1))) (mEnq μ q (nI v) (nI w) x) n (q + 1) t := by
  obtain ⟨h3, hP, hW, ⟨q1, q2, q3, q4⟩, hV, hN0, hX, hB⟩ := h
  have kc : ∀ c, c < 108 ∨ 111 < c → up (cPut κ q (nI v) (nI w) x) 108 0 (nI (q + 1)) c = κ c := fun c hc => by rw [up_cell (by omega), cPut_o (by omega) (by omega) (by omega)]
  have mc : ∀ c, c ≠ 0 → c < 10 → mEnq μ q (nI v) (nI w) x c = μ c := fun c h0 hc => by unfold mEnq; rw [up_cell h0, up_cell (by omega), up_cell (by omega), up_cell (by omega)]
  have m0 : ∀ i, i ≠ 23 → mEnq μ q (nI v) (nI w) x 0 i = μ 0 i := fun i hi => by unfold mEnq; rw [up_ix hi, up_cell (by decide), up_cell (by decide), up_cell (by decide)]
  have k9 : ∀ i, up (cPut κ q (nI v) (nI w) x) 108 0 (nI (q + 1)) 109 i = if i = q then nI v else κ 109 i := fun i => by
    by_cases hi : i = q
    · subst hi; simp [cPut, up]
    · simp [cPut, up, hi]
  have k10 : ∀ i, up (cPut κ q (nI v) (nI w) x) 108 0 (nI (q + 1)) 110 i = if i = q then nI w else κ 110 i := fun i => by
    by_cases hi : i = q
    · subst hi; simp [cPut, up]
    · simp [cPut, up, hi]
  have k11 : ∀ i, up (cPut κ q (nI v) (nI w) x) 108 0 (nI (q + 1)) 111 i = if i = q then x else κ 111 i := fun i => by
    by_cases hi : i = q
    · subst hi; simp [cPut, up]
    · simp [cPut, up, hi]
  have m9 : ∀ i, mEnq μ q (nI v) (nI w) x 10 i = if i = q then nI v else μ 10 i := fun i => by
    by_cases hi : i = q
    · subst hi; simp [mEnq, up]
    · simp [mEnq, up, hi]
  have m10 : ∀ i, mEnq μ q (nI v) (nI w) x 11 i = if i = q then nI w else μ 11 i := fun i => by
    by_cases hi : i = q
    · subst hi; simp [mEnq, up]
    · simp [mEnq, up, hi]
  have m11 : ∀ i, mEnq μ q (nI v) (nI w) x 12 i = if i = q then x else μ 12 i := fun i => by
    by_cases hi : i = q
    · subst hi; simp [mEnq, up]
    · simp [mEnq, up, hi]
  refine ⟨h3.same (fun c h1 h2 => kc c (by omega)) (fun c h1 h2 => mc c (by omega) (by omega)), ?_, ⟨fun i hi => ?_, fun i hi => ?_⟩, ⟨up_self, by unfold mEnq; exact up_self, by omega, fun k hk => ?_⟩, fun k hk => ?_, hN0.cg (fun i _ _ => by rw [kc 0 (by omega)]) (fun i hi => m0 i (by omega)), fun j => ?_, hB.cg (mc 1 (by omega) (by omega)) (mc 3 (by omega) (by omega))⟩
  · unfold RP
    rw [kc 106 (by omega), m0 9 (by omega), m0 12 (by omega), m0 13 (by omega), m0 14 (by omega), m0 15 (by omega)]
    exact hP
  · rw [kc 107 (by omega), mc 8 (by omega) (by omega)]; exact hW.1 i hi
  · rw [kc 112 (by omega), mc 9 (by omega) (by omega)]; exact hW.2 i hi
  · rw [k9, k10, k11, m9, m10, m11]
    by_cases hkq : k = q
    · rw [if_pos hkq, if_pos hkq, if_pos hkq, if_pos hkq, if_pos hkq, if_pos hkq]; exact ⟨rfl, rfl, rfl⟩
    · rw [if_neg hkq, if_neg hkq, if_neg hkq, if_neg hkq, if_neg hkq, if_neg hkq]; exact q4 k (by omega)
  · have hl : ∀ v', v' < 16 → up (cPut κ q (nI v) (nI w) x) 108 0 (nI (q + 1)) (cVk v') = κ (cVk v') := fun v' hv' => kc _ (by have := cVk_lt hv'; omega)
    by_cases hkq : k = q
    · refine ⟨v, w, z, hv, ?_, ?_, ?_, ?_, hz40, hw⟩
      · rw [k9, if_pos hkq]
      · rw [hl v hv]; exact h0
      · rw [k10, if_pos hkq]
      · rw [hl v hv]; exact hz
    · obtain ⟨v', w', z', a1, a2, a3, a4, a5, a6, a7⟩ := hV k (by omega)
      refine ⟨v', w', z', a1, ?_, ?_, ?_, ?_, a6, a7⟩
      · rw [k9, if_neg hkq]; exact a2
      · rw [hl v' a1]; exact a3
      · rw [k10, if_neg hkq]; exact a4
      · rw [hl v' a1]; exact a5
  · rw [mc 6 (by omega) (by omega)]; exact hX j
theorem sim_en {κ μ : KH} {n q t v w z : Nat} {x : Int32} (h : RR κ μ n q t) (hv : v < 16) (h0 : κ (cVk v) 0 ≠ 0) (hz : κ (cVk v) 2 = nI z) (hz40 : z ≤ 40) (hw : w < 4 * z) : RO (cEn κ (nI v) (nI w) x).1 (mEn μ (nI v) (nI w) x).1 t ∧ (cEn κ (nI v) (nI w) x).2 = (mEn μ (nI v) (nI w) x).2 := by
  unfold cEn mEn
  rw [h.qs.1, h.qs.2]
  by_cases c : q = 8
  · rw [if_pos c, if_pos c]; exact ⟨⟨n, q, h⟩, rfl⟩
  · rw [if_neg c, if_neg c]
    have := h.2.2.2.1.2.2.1
    exact ⟨⟨n, q + 1, RR_enq h (by omega) hv h0 hz hz40 hw⟩, rfl⟩
