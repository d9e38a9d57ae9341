/-! calls that change one volume of LIVE -/
theorem R3_live {κ κ' μ μ' : KH} {n v : Nat} (h3 : R3 κ μ n) (hv : v < 16) (hC : CI κ' 1 n) (hk : ∀ c, 36 ≤ c → c < 106 → κ' c = κ c) (hko : ∀ v', v' < 16 → v' ≠ v → κ' (cVk v') = κ (cVk v') ∧ κ' (cVk v' + 1) = κ (cVk v' + 1)) (h1 : κ' 1 0 = κ 1 0)
    (hm : ∀ c i, 1 ≤ c → c ≤ 5 → i ≠ v → μ' c i = μ c i) (h6 : ∀ i, i < 40 * v ∨ 40 * v + 40 ≤ i → μ' 6 i = μ 6 i) (h7 : μ' 7 = μ 7) (hM : MV κ' μ' (cVk v) v) : R3 κ' μ' n := by
  refine ⟨⟨hC, fun v' hv' => ?_, by rw [h1, h7]; exact h3.1.2.2⟩, ⟨h3.2.1.1.same (fun c a b => hk c (by omega) (by omega)), h3.2.1.2.same (fun c a b => hk c (by omega) (by omega)) (fun v' hv' => ⟨hm 1 _ (by omega) (by omega) (by omega), hm 2 _ (by omega) (by omega) (by omega), hm 3 _ (by omega) (by omega) (by omega), hm 4 _ (by omega) (by omega) (by omega), hm 5 _ (by omega) (by omega) (by omega), fun p hp => h6 _ (by omega)⟩) (by rw [h7])⟩, ⟨h3.2.2.1.same (fun c a b => hk c (by omega) (by omega)), h3.2.2.2.same (fun c a b => hk c (by omega) (by omega)) (fun v' hv' => ⟨hm 1 _ (by omega) (by omega) (by omega), hm 2 _ (by omega) (by omega) (by omega), hm 3 _ (by omega) (by omega) (by omega), hm 4 _ (by omega) (by omega) (by omega), hm 5 _ (by omega) (by omega) (by omega), fun p hp => h6 _ (by omega)⟩) (by rw [h7])⟩⟩
  by_cases hvv : v' = v
  · subst hvv
    rw [show 16 * 0 + v' = v' by omega]
    exact hM
  · obtain ⟨k1, k2⟩ := hko v' hv' hvv
    exact (h3.1.2.1 v' hv').cg (eqV.rf k1 k2) ⟨hm 1 _ (by omega) (by omega) (by omega), hm 2 _ (by omega) (by omega) (by omega), hm 3 _ (by omega) (by omega) (by omega), hm 4 _ (by omega) (by omega) (by omega), hm 5 _ (by omega) (by omega) (by omega), fun p hp => h6 _ (by omega)⟩
/-- only cells of states change -/
theorem RR_st {κ κ' μ μ' : KH} {n q t : Nat} (h : RR κ μ n q t) (h3 : R3 κ' μ' n) (hk : ∀ c, c = 0 ∨ 106 ≤ c → κ' c = κ c) (hm : ∀ c, c = 0 ∨ 8 ≤ c → μ' c = μ c) (hV : QV κ' q) (hX : ∀ j, isX (μ' 6 j)) (hB : mB μ') : RR κ' μ' n q t := by
  obtain ⟨_, hP, hW, hQ, _, hN, _, _⟩ := h
  refine ⟨h3, ?_, ⟨fun i hi => ?_, fun i hi => ?_⟩, hQ.cg (fun c a b => hk c (by omega)) (fun c a b => hm c (by omega)) (by rw [hm 0 (by omega)]), hV, hN.cg (fun i _ _ => by rw [hk 0 (by omega)]) (fun i _ => by rw [hm 0 (by omega)]), hX, hB⟩
  · unfold RP
    rw [hk 106 (by omega), hm 0 (by omega)]; exact hP
  · rw [hk 107 (by omega), hm 8 (by omega)]; exact hW.1 i hi
  · rw [hk 112 (by omega), hm 9 (by omega)]; exact hW.2 i hi
theorem MVl {κ μ : KH} {n v : Nat} (h3 : R3 κ μ n) (hv : v < 16) : MV κ μ (cVk v) v := by
  have := h3.1.2.1 v hv
  rw [show 16 * 0 + v = v by omega] at this
  exact this
/-! places that are not mapped any more -/
theorem mUnm_o {μ : KH} {v a b c : Nat} (h : c ≠ 6) : mUnm μ v a b c = μ c := by
  unfold mUnm
  have hh : ∀ j, iterK (mUm1 v a) j μ c = μ c := fun j => by
    induction j with
    | zero => rfl
    | succ j ih =>
      show mUm1 v a j (iterK (mUm1 v a) j μ) c = _
      unfold mUm1
      rw [up_cell h]; exact ih
  exact hh _
theorem mUnm_6 {μ : KH} {v a b : Nat} (hab : a ≤ b) (i : Nat) : mUnm μ v a b 6 i = if 40 * v + a ≤ i ∧ i < 40 * v + b then -1 else μ 6 i := by
  unfold mUnm
  have hh : ∀ j, iterK (mUm1 v a) j μ 6 i = if 40 * v + a ≤ i ∧ i < 40 * v + (a + j) then -1 else μ 6 i := fun j => by
    induction j with
    | zero => rw [if_neg (by omega)]; rfl
    | succ j ih =>
      show up (iterK (mUm1 v a) j μ) 6 (40 * v + (a + j)) (-1) 6 i = _
      by_cases hi : i = 40 * v + (a + j)
      · subst hi; rw [up_self, if_pos (by omega)]
      · rw [up_ix hi, ih]
        by_cases h2 : 40 * v + a ≤ i ∧ i < 40 * v + (a + j)
        · rw [if_pos h2, if_pos (by omega)]
        · rw [if_neg h2, if_neg (by omega)]
  rw [hh, show a + (b - a) = b by omega]
theorem cUm_ff {κ : KH} {b k a d c f : Nat} (hb : isS b) (hk : isV k) (hc : isV c) (hf : f ≠ 5) : cUm κ b k a d c f = κ c f := by
  have h1 := (isS_b hb hc).2.2.1
  by_cases hck : c = k
  · subst hck; exact cUm_f h1 hf
  · rw [cUm_o h1 hck (isV_par hc hk)]
theorem R3_unm {κ μ : KH} {n v a c : Nat} (h3 : R3 κ μ n) (hn : n ≤ 96) (hv : v < 16) (hac : a ≤ c) (hc : c ≤ 40) : R3 (cUm κ 1 (cVk v) a c) (mUnm μ v a c) n := by
  have hk := isVk hv
  have hl := cVk_lt hv
  refine R3_live h3 hv (CI_cUm (v := v) okS1 hv hn h3.1.1 hc) (fun d h1 h2 => cUm_o (by omega) (by omega) (by omega)) (fun v' hv' hne => ⟨cUm_o (by have := cVk_lt hv'; omega) (by unfold cVk; omega) (by unfold cVk; omega), cUm_o (by have := cVk_lt hv'; omega) (by unfold cVk; omega) (by unfold cVk; omega)⟩) (by rw [cUm_o (by omega) (by omega) (by omega)]) (fun d i h1 h2 _ => by rw [mUnm_o (by omega)]) (fun i hi => by rw [mUnm_6 hac, if_neg (by omega)]) (mUnm_o (by decide)) ?_
  obtain ⟨b1, b2⟩ := MVl h3 hv
  have hf : ∀ i, i ≠ 5 → cUm κ 1 (cVk v) a c (cVk v) i = κ (cVk v) i := fun i hi => cUm_ff okS1 hk hk hi
  refine ⟨by rw [hf 0 (by decide), mUnm_o (by decide)]; exact b1, fun h0 => ?_⟩
  rw [hf 0 (by decide)] at h0
  obtain ⟨d1, d2, d3, d4, d5, z, d6, d7, d8⟩ := b2 h0
  refine ⟨by rw [hf 1 (by decide), mUnm_o (by decide)]; exact d1, by rw [hf 2 (by decide), mUnm_o (by decide)]; exact d2, by rw [hf 3 (by decide), mUnm_o (by decide)]; exact d3, by rw [hf 4 (by decide), mUnm_o (by decide)]; exact d4, fun p hp => ?_, z, d6, by rw [hf 2 (by decide)]; exact d7, fun p h1 h2 => ?_⟩
  · rw [cUm_at okS1 hk hac, mUnm_6 hac]
    by_cases hh : a ≤ p ∧ p < c
    · rw [if_pos hh, if_pos (by omega)]
    · rw [if_neg hh, if_neg (by omega)]; exact d5 p hp
  · rw [cUm_at okS1 hk hac]
    split
    · rfl
    · exact d8 p h1 h2
theorem sumTo_cut {f g : Nat → Nat} {a c : Nat} (h : ∀ p, g p = if a ≤ p ∧ p < c then 0 else f p) : ∀ N, sumTo f N = sumTo g N + sumTo (fun j => f (a + j)) ((if N < c then N else c) - a)
  | 0 => by
    rw [show (if 0 < c then 0 else c) - a = 0 by split <;> omega]; rfl
  | N + 1 => by
    have ih := sumTo_cut h N
    have hN := h N
    rw [sumTo, sumTo, ih, hN]
    by_cases hh : a ≤ N ∧ N < c
    · rw [if_pos hh, show (if N + 1 < c then N + 1 else c) - a = (N - a) + 1 by split <;> omega, show (if N < c then N else c) - a = N - a by split <;> omega, sumTo, show a + (N - a) = N by omega]
      omega
    · rw [if_neg hh, show (if N + 1 < c then N + 1 else c) - a = (if N < c then N else c) - a by split <;> split <;> omega]
      omega
theorem sumTo_ext0 {f : Nat → Nat} {m : Nat} : ∀ n, m ≤ n → (∀ i, m ≤ i → i < n → f i = 0) → sumTo f n = sumTo f m
  | 0, h, _ => by rw [show m = 0 by omega]
  | n + 1, h, hz => by
    by_cases hm : m = n + 1
    · rw [hm]
    · rw [sumTo, sumTo_ext0 n (by omega) (fun i h1 h2 => hz i h1 (by omega)), hz n (by omega) (by omega), Nat.add_zero]
/-- how many were mapped, as both sides count them: the class from a to c, the model from a to b -/
theorem um_cnt {κ μ : KH} {n v a b c : Nat} (h3 : R3 κ μ n) (hn : n ≤ 96) (hv : v < 16) (h0 : κ (cVk v) 0 ≠ 0) (hac : a ≤ c) (hc : c ≤ 40) (hbc : b ≤ c) (hz : ∀ p, b ≤ p → p < c → κ (cVk v + 1) p = -1) : κ (cVk v) 5 - cUm κ 1 (cVk v) a c (cVk v) 5 = nI (mUmC μ v a b) := by
  have hk := isVk hv
  have h5 := (CIv h3.1.1 hv).2.2.1
  have hC := CI_cUm (v := v) (a := a) okS1 hv hn h3.1.1 hc
  have h5' : cUm κ 1 (cVk v) a c (cVk v) 5 = nI (cMp (cUm κ 1 (cVk v) a c) (cVk v)) := (CIv hC hv).2.2.1
  have hcut := sumTo_cut (f := cMp1 κ (cVk v)) (g := cMp1 (cUm κ 1 (cVk v) a c) (cVk v)) (a := a) (c := c) (fun p => by
    unfold cMp1
    rw [cUm_at okS1 hk hac]
    by_cases hh : a ≤ p ∧ p < c
    · rw [if_pos hh, if_pos hh, if_pos rfl]
    · rw [if_neg hh, if_neg hh]) 40
  rw [show (if 40 < c then 40 else c) - a = c - a by split <;> omega] at hcut
  have hl5 := (live h3.1.2 hv h0).2.2.2.2.1
  have hsum : sumTo (fun j => cMp1 κ (cVk v) (a + j)) (c - a) = mUmC μ v a b := by
    unfold mUmC
    rw [sumTo_ext0 (m := b - a) (c - a) (by omega) (fun i h1 h2 => by unfold cMp1; rw [hz (a + i) (by omega) (by omega), if_pos rfl])]
    refine sumTo_congr _ (fun i hi => ?_)
    unfold cMp1 mMp1
    rw [hl5 (a + i) (by omega)]
  have hle : cMp (cUm κ 1 (cVk v) a c) (cVk v) ≤ cMp κ (cVk v) := by unfold cMp; omega
  rw [h5, h5', cv_sub hle]
  refine congrArg nI ?_
  unfold cMp
  omega
theorem RR_unm {κ μ : KH} {n q t v a c : Nat} (h : RR κ μ n q t) (hv : v < 16) (hac : a ≤ c) (hc : c ≤ 40) : RR (cUm κ 1 (cVk v) a c) (mUnm μ v a c) n q t := by
  have hk := isVk hv
  have hl := cVk_lt hv
  refine RR_st h (R3_unm h.1 h.2.1.2.2.2.1 hv hac hc) (fun d hd => cUm_o (by omega) (by omega) (by omega)) (fun d hd => mUnm_o (by omega)) (h.2.2.2.2.1.cg (cUm_o (by omega) (by omega) (by omega)) (cUm_o (by omega) (by omega) (by omega)) (fun v' hv' => cUm_ff okS1 hk (isVk hv') (by decide)) (fun v' hv' => cUm_ff okS1 hk (isVk hv') (by decide))) (fun j => ?_) (h.2.2.2.2.2.2.2.cg (mUnm_o (by decide)) (mUnm_o (by decide)))
  rw [mUnm_6 hac]
  split
  · exact Or.inl rfl
  · exact h.2.2.2.2.2.2.1 j
/-- a volume's size is another one; what it has no more is not mapped -/
theorem RR_rsz {κ μ : KH} {n q t v s z : Nat} (h : RR κ μ n q t) (hv : v < 16) (h0 : κ (cVk v) 0 ≠ 0) (hz : κ (cVk v) 2 = nI z) (hz40 : z ≤ 40) (hs : s ≤ 40) (hq : ∀ k, k < q → κ 109 k = nI v → ∀ w, κ 110 k = nI w → w < 160 → w / 4 < s) : RR (up (cUm κ 1 (cVk v) s 40) (cVk v) 2 (nI s)) (up (mUnm μ v s z) 2 v (nI s)) n q t := by
  have hk := isVk hv
  have hl := cVk_lt hv
  have hn := h.2.1.2.2.2.1
  have m6 : ∀ i, mUnm μ v s z 6 i = if 40 * v + s ≤ i ∧ i < 40 * v + z then -1 else μ 6 i := fun i => by
    by_cases hsz : s ≤ z
    · exact mUnm_6 hsz i
    · rw [if_neg (by omega)]
      unfold mUnm
      rw [show z - s = 0 by omega]; rfl
  have hf : ∀ i, i ≠ 5 → cUm κ 1 (cVk v) s 40 (cVk v) i = κ (cVk v) i := fun i hi => cUm_ff okS1 hk hk hi
  have kc : ∀ c, c ≠ 35 → c ≠ cVk v → c ≠ cVk v + 1 → up (cUm κ 1 (cVk v) s 40) (cVk v) 2 (nI s) c = κ c := fun c a1 a2 a3 => by rw [up_cell a2, cUm_o a1 a2 a3]
  have mc : ∀ c, c ≠ 2 → c ≠ 6 → up (mUnm μ v s z) 2 v (nI s) c = μ c := fun c a1 a2 => by rw [up_cell a1, mUnm_o a2]
  obtain ⟨b1, b2⟩ := MVl h.1 hv
  obtain ⟨d1, d2, d3, d4, d5, z', d6, d7, d8⟩ := b2 h0
  have hzz : z' = z := cv_eq (by omega) (by omega) (d7.symm.trans hz)
  subst hzz
  have hC0 : CI (cUm κ 1 (cVk v) s 40) 1 n := CI_cUm (v := v) okS1 hv hn h.1.1.1 (Nat.le_refl _)
  have hext : ∀ p, up (cUm κ 1 (cVk v) s 40) (cVk v) 2 (nI s) (cVk v + 1) p = if s ≤ p ∧ p < 40 then -1 else κ (cVk v + 1) p := fun p => by rw [up_cell (by omega), cUm_at okS1 hk hs]
  have hC : CI (up (cUm κ 1 (cVk v) s 40) (cVk v) 2 (nI s)) 1 n := by
    refine ⟨fun v' hv' => ?_, fun e he => ?_, ?_⟩
    · have h8 := hC0.1 v' hv'
      by_cases hvv : v' = v
      · subst hvv
        obtain ⟨x1, x2, x3, x4, x5, x6⟩ := h8
        have ee : ∀ c, c ≠ cVk v' → up (cUm κ 1 (cVk v') s 40) (cVk v') 2 (nI s) c = cUm κ 1 (cVk v') s 40 c := fun c hc => up_cell hc
        have ef : ∀ i, i ≠ 2 → up (cUm κ 1 (cVk v') s 40) (cVk v') 2 (nI s) (cVk v') i = cUm κ 1 (cVk v') s 40 (cVk v') i := fun i hi => up_ix hi
        refine ⟨?_, ?_, ?_, fun p hp => ?_, fun hh p hp => ?_, fun p => ?_⟩
        · show is01 (up _ (cVk v') 2 (nI s) (cVk v') 0); rw [ef 0 (by decide)]; exact x1
        · show is01 (up _ (cVk v') 2 (nI s) (cVk v') 1); rw [ef 1 (by decide)]; exact x2
        · show up _ (cVk v') 2 (nI s) (cVk v') 5 = _
          rw [ef 5 (by decide), cMp_cg (κ := cUm κ 1 (cVk v') s 40) (k := cVk v') (fun p hp => by show up _ (cVk v') 2 (nI s) (cVk v' + 1) p = _; rw [ee _ (by omega)])]
          exact x3
        · show isXn n (up _ (cVk v') 2 (nI s) (cVk v' + 1) p); rw [ee _ (by omega)]; exact x4 p hp
        · have hh' : up (cUm κ 1 (cVk v') s 40) (cVk v') 2 (nI s) (cVk v') 0 = 0 := hh
          rw [ef 0 (by decide)] at hh'
          show up _ (cVk v') 2 (nI s) (cVk v' + 1) p = -1; rw [ee _ (by omega)]; exact x5 hh' p hp
        · show isX (up _ (cVk v') 2 (nI s) (cVk v' + 1) p); rw [ee _ (by omega)]; exact x6 p
      · have g1 : up (cUm κ 1 (cVk v) s 40) (cVk v) 2 (nI s) (1 + 2 + 2 * v') = cUm κ 1 (cVk v) s 40 (1 + 2 + 2 * v') := up_cell (by unfold cVk; omega)
        have g2 : up (cUm κ 1 (cVk v) s 40) (cVk v) 2 (nI s) (1 + 2 + 2 * v' + 1) = cUm κ 1 (cVk v) s 40 (1 + 2 + 2 * v' + 1) := up_cell (by unfold cVk; omega)
        exact h8.cg (eqV.rf g1 g2) (fun p => by rw [g2]; exact h8.2.2.2.2.2 p)
    · rw [up_cell (by omega), hC0.2.1 e he]
      refine congrArg nI (cUs_cg _ (fun v' hv' p hp => ?_)).symm
      rw [up_cell (by unfold cVk; omega)]
    · rw [up_cell (by omega), hC0.2.2]
      refine congrArg nI (cVl_cg (fun v' hv' => ?_)).symm
      by_cases hvv : v' = v
      · subst hvv
        show up _ (cVk v') 2 (nI s) (cVk v') 0 = _
        rw [up_ix (by decide)]; rfl
      · rw [up_cell (by unfold cVk; omega)]
  refine RR_st h (R3_live h.1 hv hC (fun d h1 h2 => kc d (by omega) (by omega) (by omega)) (fun v' hv' hne => ⟨kc _ (by have := cVk_lt hv'; omega) (by unfold cVk; omega) (by unfold cVk; omega), kc _ (by have := cVk_lt hv'; omega) (by unfold cVk; omega) (by unfold cVk; omega)⟩) (by rw [kc 1 (by omega) (by omega) (by omega)]) (fun d i h1 h2 hi => ?_) (fun i hi => by rw [up_cell (by decide), m6, if_neg (by omega)]) (mc 7 (by decide) (by decide)) ?_) (fun d hd => kc d (by omega) (by omega) (by omega)) (fun d hd => mc d (by omega) (by omega)) (fun k hk9 => ?_) (fun j => ?_) (h.2.2.2.2.2.2.2.cg (mc 1 (by decide) (by decide)) (mc 3 (by decide) (by decide)))
  · by_cases hd2 : d = 2
    · subst hd2; rw [up_ix hi, mUnm_o (by decide)]
    · rw [mc d hd2 (by omega)]
  · refine ⟨by rw [up_ix (by decide), hf 0 (by decide), mc 1 (by decide) (by decide)]; exact b1, fun _ => ⟨by rw [up_ix (by decide), hf 1 (by decide), mc 3 (by decide) (by decide)]; exact d1, by rw [up_self, up_self], by rw [up_ix (by decide), hf 3 (by decide), mc 4 (by decide) (by decide)]; exact d3, by rw [up_ix (by decide), hf 4 (by decide), mc 5 (by decide) (by decide)]; exact d4, fun p hp => ?_, s, hs, up_self, fun p h1 h2 => ?_⟩⟩
    · rw [hext, up_cell (by decide), m6]
      by_cases hsp : s ≤ p
      · rw [if_pos ⟨hsp, hp⟩]
        by_cases hpz : p < z'
        · rw [if_pos (by omega)]
        · rw [if_neg (by omega), ← d5 p hp, d8 p (by omega) hp]
      · rw [if_neg (by omega), if_neg (by omega)]; exact d5 p hp
    · rw [hext, if_pos ⟨h1, h2⟩]
  · obtain ⟨v', w, z2, a1, a2, a3, a4, a5, a6, a7⟩ := h.2.2.2.2.1 k hk9
    by_cases hvv : v' = v
    · subst hvv
      have := hq k hk9 a2 w a4 (by omega)
      exact ⟨v', w, s, a1, by rw [kc 109 (by omega) (by omega) (by omega)]; exact a2, by rw [up_ix (by decide), hf 0 (by decide)]; exact a3, by rw [kc 110 (by omega) (by omega) (by omega)]; exact a4, up_self, hs, by omega⟩
    · have g1 : up (cUm κ 1 (cVk v) s 40) (cVk v) 2 (nI s) (cVk v') = κ (cVk v') := kc _ (by have := cVk_lt a1; omega) (by unfold cVk; omega) (by unfold cVk; omega)
      exact ⟨v', w, z2, a1, by rw [kc 109 (by omega) (by omega) (by omega)]; exact a2, by rw [g1]; exact a3, by rw [kc 110 (by omega) (by omega) (by omega)]; exact a4, by rw [g1]; exact a5, a6, a7⟩
  · rw [up_cell (by decide), m6]
    split
    · exact Or.inl rfl
    · exact h.2.2.2.2.2.2.1 j
