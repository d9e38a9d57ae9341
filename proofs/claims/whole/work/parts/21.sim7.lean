/-! making, snapping, quotas -/
theorem vol_eq {κ μ : KH} {b s : Nat} (h : MR κ μ b s) : mVol μ s = cVl κ b :=
  sumTo_congr 16 (fun v hv => by unfold mTh1 cTh1; rw [← (h.1 v hv).1])
theorem CI_upf {κ : KH} {b v n f : Nat} {x : Int32} (hb : isS b) (hv : v < 16) (hf : f = 2 ∨ f = 3 ∨ f = 4) (h : CI κ b n) : CI (up κ (b + 2 + 2 * v) f x) b n := by
  have hk := isV_of hb hv
  obtain ⟨w1, w2, w3, w4⟩ := isS_b hb hk
  have ef : ∀ i, i = 0 ∨ i = 1 ∨ i = 5 → up κ (b + 2 + 2 * v) f x (b + 2 + 2 * v) i = κ (b + 2 + 2 * v) i := fun i hi => up_ix (by omega)
  have ee : ∀ v', v' < 16 → up κ (b + 2 + 2 * v) f x (b + 2 + 2 * v' + 1) = κ (b + 2 + 2 * v' + 1) := fun v' hv' => up_cell (isV_par (k := b + 2 + 2 * v') (c := b + 2 + 2 * v) hk (isV_of hb hv') |>.symm)
  refine ⟨fun v' hv' => ?_, fun e he => ?_, ?_⟩
  · by_cases hvv : v' = v
    · subst hvv
      obtain ⟨x1, x2, x3, x4, x5, x6⟩ := h.1 v' hv'
      refine ⟨by rw [ef 0 (by omega)]; exact x1, by rw [ef 1 (by omega)]; exact x2, ?_, fun p hp => by rw [ee v' hv']; exact x4 p hp, fun h0 p hp => by rw [ef 0 (by omega)] at h0; rw [ee v' hv']; exact x5 h0 p hp, fun p => by rw [ee v' hv']; exact x6 p⟩
      rw [ef 5 (by omega), cMp_cg (κ := κ) (k := b + 2 + 2 * v') (fun p hp => congrFun (ee v' hv') p)]
      exact x3
    · have g1 : up κ (b + 2 + 2 * v) f x (b + 2 + 2 * v') = κ (b + 2 + 2 * v') := up_cell (by omega)
      exact (h.1 v' hv').cg (eqV.rf g1 (ee v' hv')) (fun p => by rw [ee v' hv']; exact (h.1 v' hv').2.2.2.2.2 p)
  · rw [up_cell (Ne.symm w3), h.2.1 e he]
    exact congrArg nI (cUs_cg _ (fun v' hv' p hp => congrFun (ee v' hv') p)).symm
  · rw [up_cell (Ne.symm w1), h.2.2]
    refine congrArg nI (cVl_cg (fun v' hv' => ?_)).symm
    by_cases hvv : v' = v
    · subst hvv; exact ef 0 (by omega)
    · rw [up_cell (by omega)]
theorem mMk_o {y : KH} {j c : Nat} {s b : Int32} (h : c ≠ 6) : mMake y j s b c = mMk0 y j s b c := by
  unfold mMake
  have hh : ∀ p, iterK (mMk1 j) p (mMk0 y j s b) c = mMk0 y j s b c := fun p => by
    induction p with
    | zero => rfl
    | succ p ih =>
      show up (iterK (mMk1 j) p (mMk0 y j s b)) 6 (40 * j + p) (-1) c = _
      rw [up_cell h]; exact ih
  exact hh 40
theorem mMk_6 {y : KH} {j : Nat} {s b : Int32} (i : Nat) : mMake y j s b 6 i = if 40 * j ≤ i ∧ i < 40 * j + 40 then -1 else y 6 i := by
  unfold mMake
  have hh : ∀ p, iterK (mMk1 j) p (mMk0 y j s b) 6 i = if 40 * j ≤ i ∧ i < 40 * j + p then -1 else y 6 i := fun p => by
    induction p with
    | zero =>
      rw [if_neg (by omega)]
      show mMk0 y j s b 6 i = _
      unfold mMk0
      rw [up_cell (by decide), up_cell (by decide), up_cell (by decide), up_cell (by decide), up_cell (by decide)]
    | succ p ih =>
      show up (iterK (mMk1 j) p (mMk0 y j s b)) 6 (40 * j + p) (-1) 6 i = _
      by_cases hi : i = 40 * j + p
      · subst hi; rw [up_self, if_pos (by omega)]
      · rw [up_ix hi, ih]
        by_cases h2 : 40 * j ≤ i ∧ i < 40 * j + p
        · rw [if_pos h2, if_pos (by omega)]
        · rw [if_neg h2, if_neg (by omega)]
  exact hh 40
theorem mMk0_at {y : KH} {j : Nat} {s b : Int32} : mMk0 y j s b 1 j = 1 ∧ mMk0 y j s b 2 j = s ∧ mMk0 y j s b 3 j = b ∧ mMk0 y j s b 4 j = -1 ∧ mMk0 y j s b 5 j = -1 := by
  unfold mMk0
  simp [up]
theorem mMk0_ne {y : KH} {j c i : Nat} {s b : Int32} (h : i ≠ j) : mMk0 y j s b c i = y c i := by
  unfold mMk0
  rw [up_ix h, up_ix h, up_ix h, up_ix h, up_ix h]
theorem mMk0_o {y : KH} {j c : Nat} {s b : Int32} (h : c < 1 ∨ 5 < c) : mMk0 y j s b c = y c := by
  unfold mMk0
  rw [up_cell (by omega), up_cell (by omega), up_cell (by omega), up_cell (by omega), up_cell (by omega)]
theorem QV.ne {κ κ' : KH} {q j : Nat} (h : QV κ q) (h0 : κ (cVk j) 0 = 0) (h1 : κ' 109 = κ 109) (h2 : κ' 110 = κ 110) (h3 : ∀ v, v < 16 → v ≠ j → κ' (cVk v) = κ (cVk v)) : QV κ' q := fun k hk => by
  obtain ⟨v, w, z, a1, a2, a3, a4, a5, a6, a7⟩ := h k hk
  have hne : v ≠ j := fun z => a3 (by rw [z]; exact h0)
  exact ⟨v, w, z, a1, by rw [h1]; exact a2, by rw [h3 v a1 hne]; exact a3, by rw [h2]; exact a4, by rw [h3 v a1 hne]; exact a5, a6, a7⟩
theorem RR_make {κ μ : KH} {n q t j z : Nat} {g : Int32} (h : RR κ μ n q t) (hj : j < 16) (h0 : κ (cVk j) 0 = 0) (hz : z ≤ 40) (hg : is01 g) : RR (cAdd κ 1 (cVk j) (nI z) g (-1) (-1)) (mMake μ j (nI z) g) n q t := by
  have hk := isVk hj
  have hl := cVk_lt hj
  have hkb : cVk j ≠ 1 := by omega
  have kc : ∀ c, c ≠ 1 → c ≠ cVk j → cAdd κ 1 (cVk j) (nI z) g (-1) (-1) c = κ c := fun c a1 a2 => cAdd_o a1 a2
  obtain ⟨m1, m2, m3, m4, m5⟩ := mMk0_at (y := μ) (j := j) (s := nI z) (b := g)
  have hex := (CIv h.1.1.1 hj).2.2.2.2.1 h0
  refine RR_st h (R3_live h.1 hj (CI_add (v := j) okS1 hj h.1.1.1 h0 hg) (fun d h1 h2 => kc d (by omega) (by omega)) (fun v' hv' hne => ⟨kc _ (by have := cVk_lt hv'; omega) (by unfold cVk; omega), kc _ (by have := cVk_lt hv'; omega) (by unfold cVk; omega)⟩) (cAdd_b0 hkb) (fun d i h1 h2 hi => by rw [mMk_o (by omega), mMk0_ne hi]) (fun i hi => by rw [mMk_6, if_neg (by omega)]) (by rw [mMk_o (by decide), mMk0_o (by omega)]) ?_) (fun d hd => kc d (by omega) (by omega)) (fun d hd => by rw [mMk_o (by omega), mMk0_o (by omega)]) (h.2.2.2.2.1.ne h0 (kc 109 (by omega) (by omega)) (kc 110 (by omega) (by omega)) (fun v hv hne => kc _ (by have := cVk_lt hv; omega) (by unfold cVk; omega))) (fun i => ?_) (fun i => ?_)
  · refine ⟨by rw [cAdd_0 hkb, mMk_o (by decide), m1], fun _ => ⟨by rw [cAdd_1 hkb, mMk_o (by decide), m3], by rw [cAdd_2 hkb, mMk_o (by decide), m2], by rw [cAdd_3 hkb, mMk_o (by decide), m4], by rw [cAdd_4 hkb, mMk_o (by decide), m5], fun p hp => ?_, z, hz, cAdd_2 hkb, fun p h1 h2 => ?_⟩⟩
    · rw [kc _ (by omega) (by omega), hex p hp, mMk_6, if_pos (by omega)]
    · rw [kc _ (by omega) (by omega)]; exact hex p h2
  · rw [mMk_6]
    split
    · exact Or.inl rfl
    · exact h.2.2.2.2.2.2.1 i
  · have hB := h.2.2.2.2.2.2.2 i
    rw [mMk_o (by decide), mMk_o (by decide)]
    by_cases hi : i = j
    · subst hi; rw [m1, m3]; exact ⟨Or.inr rfl, hg⟩
    · rw [mMk0_ne hi, mMk0_ne hi]; exact hB
theorem mCpV_c {μ : KH} {a b c : Nat} (hc : 1 ≤ c) (hc4 : c ≤ 4) (i : Nat) : mCpV μ a b c i = if i = b then μ c a else μ c i := by
  unfold mCpV
  rw [mCpM_oth a b _ c (by omega)]
  by_cases h : i = b
  · subst h
    rw [if_pos rfl]
    rcases (show c = 1 ∨ c = 2 ∨ c = 3 ∨ c = 4 by omega) with rfl | rfl | rfl | rfl <;> simp [up]
  · rw [if_neg h, up_ix h, up_ix h, up_ix h, up_ix h]
theorem mCpV_o {μ : KH} {a b c : Nat} (hc : c = 0 ∨ c = 5 ∨ 7 ≤ c) : mCpV μ a b c = μ c := by
  unfold mCpV
  rw [mCpM_oth a b _ c (by omega), up_cell (by omega), up_cell (by omega), up_cell (by omega), up_cell (by omega)]
theorem mCpM_6 {μ : KH} {a b : Nat} (hab : a ≠ b) (i : Nat) : ∀ p, p ≤ 40 → iterK (mCpM a b) p μ 6 i = if 40 * b ≤ i ∧ i < 40 * b + p then μ 6 (40 * a + (i - 40 * b)) else μ 6 i
  | 0, _ => by rw [if_neg (by omega)]; rfl
  | p + 1, hp => by
    have ih := mCpM_6 (μ := μ) hab i p (by omega)
    have ih2 := mCpM_6 (μ := μ) hab (40 * a + p) p (by omega)
    rw [if_neg (by omega)] at ih2
    show up (iterK (mCpM a b) p μ) 6 (40 * b + p) (iterK (mCpM a b) p μ 6 (40 * a + p)) 6 i = _
    by_cases hi : i = 40 * b + p
    · subst hi; rw [up_self, if_pos (by omega), ih2]; congr 1; omega
    · rw [up_ix hi, ih]
      by_cases h2 : 40 * b ≤ i ∧ i < 40 * b + p
      · rw [if_pos h2, if_pos (by omega)]
      · rw [if_neg h2, if_neg (by omega)]
theorem mCpV_6 {μ : KH} {a b : Nat} (hab : a ≠ b) (i : Nat) : mCpV μ a b 6 i = if 40 * b ≤ i ∧ i < 40 * b + 40 then μ 6 (40 * a + (i - 40 * b)) else μ 6 i := by
  unfold mCpV
  rw [mCpM_6 hab i 40 (Nat.le_refl _), up_cell (by decide), up_cell (by decide), up_cell (by decide), up_cell (by decide)]
theorem RR_snap {κ μ : KH} {n q t i j : Nat} (h : RR κ μ n q t) (hi : i < 16) (hj : j < 16) (h1 : κ (cVk i) 0 ≠ 0) (h0 : κ (cVk j) 0 = 0) : RR (cSnap κ i j) (mSnap μ i j) n q t := by
  have hij : i ≠ j := fun z => h1 (by rw [z]; exact h0)
  have hk := isVk hj
  have hl := cVk_lt hj
  have hli := cVk_lt hi
  have hkb : cVk j ≠ 1 := by omega
  have hn := h.2.1.2.2.2.1
  have ei : 16 * 0 + i = i := by omega
  have ej : 16 * 0 + j = j := by omega
  have kc : ∀ c, c ≠ 1 → c ≠ 35 → c ≠ cVk j → c ≠ cVk j + 1 → cSnap κ i j c = κ c := fun c a0 a1 a2 a3 => by
    unfold cSnap
    rw [cSn_o a1 a2 a3]
    exact cAdd_o a0 a2
  have kb : cSnap κ i j 1 0 = κ 1 0 := by
    unfold cSnap
    rw [cSn_o (by omega) (by omega) (by omega)]
    exact cAdd_b0 hkb
  have kf : ∀ f, f ≠ 5 → cSnap κ i j (cVk j) f = cSn0 κ i j (cVk j) f := fun f hf => cSn_f hj hf 40
  have ke : ∀ p, p < 40 → cSnap κ i j (cVk j + 1) p = κ (cVk i + 1) p := fun p hp => by
    unfold cSnap
    rw [cSn_ext hj p 40, if_pos hp]
  have mc : ∀ c, 1 ≤ c → c ≤ 4 → ∀ x, mSnap μ i j c x = if x = j then μ c i else μ c x := fun c a1 a2 x => by
    unfold mSnap
    rw [up_cell (by omega), mCpV_c a1 a2, ei, ej]
  have m5 : ∀ x, mSnap μ i j 5 x = if x = j then nI i else μ 5 x := fun x => by
    unfold mSnap
    by_cases hx : x = j
    · subst hx; rw [up_self, if_pos rfl]
    · rw [up_ix hx, if_neg hx, mCpV_o (by omega)]
  have m6 : ∀ x, mSnap μ i j 6 x = if 40 * j ≤ x ∧ x < 40 * j + 40 then μ 6 (40 * i + (x - 40 * j)) else μ 6 x := fun x => by
    unfold mSnap
    rw [up_cell (by omega), ei, ej, mCpV_6 hij]
  have mo : ∀ c, c = 0 ∨ 7 ≤ c → mSnap μ i j c = μ c := fun c hc => by
    unfold mSnap
    rw [up_cell (by omega), mCpV_o (by omega)]
  obtain ⟨d1, d2, d3, d4, d5, z, d6, d7, d8⟩ := live h.1.1.2 hi h1
  refine RR_st h (R3_live h.1 hj (CI_sni hi hj hn h.1.1.1 h0 40 (Nat.le_refl _)) (fun d a b => kc d (by omega) (by omega) (by omega) (by omega)) (fun v' hv' hne => ⟨kc _ (by have := cVk_lt hv'; omega) (by have := cVk_lt hv'; omega) (by unfold cVk; omega) (by unfold cVk; omega), kc _ (by have := cVk_lt hv'; omega) (by have := cVk_lt hv'; omega) (by unfold cVk; omega) (by unfold cVk; omega)⟩) kb (fun d x a b hx => ?_) (fun x hx => by rw [m6, if_neg (by omega)]) (mo 7 (by omega)) ?_) (fun d hd => kc d (by omega) (by omega) (by omega) (by omega)) (fun d hd => mo d (by omega)) (h.2.2.2.2.1.ne h0 (kc 109 (by omega) (by omega) (by omega) (by omega)) (kc 110 (by omega) (by omega) (by omega) (by omega)) (fun v hv hne => kc _ (by have := cVk_lt hv; omega) (by have := cVk_lt hv; omega) (by unfold cVk; omega) (by unfold cVk; omega))) (fun x => ?_) (fun x => ?_)
  · by_cases hd : d = 5
    · subst hd; rw [m5, if_neg hx]
    · rw [mc d a (by omega), if_neg hx]
  · refine ⟨by rw [kf 0 (by decide), mc 1 (by omega) (by omega), if_pos rfl]; unfold cSn0; rw [cAdd_0 hkb, ← live0 h.1.1.2 hi]; exact ((CIv h.1.1.1 hi).1.resolve_left h1).symm, fun _ => ⟨by rw [kf 1 (by decide), mc 3 (by omega) (by omega), if_pos rfl]; unfold cSn0; rw [cAdd_1 hkb, d1], by rw [kf 2 (by decide), mc 2 (by omega) (by omega), if_pos rfl]; unfold cSn0; rw [cAdd_2 hkb, d2], by rw [kf 3 (by decide), mc 4 (by omega) (by omega), if_pos rfl]; unfold cSn0; rw [cAdd_3 hkb, d3], by rw [kf 4 (by decide), m5, if_pos rfl]; unfold cSn0; rw [cAdd_4 hkb], fun p hp => ?_, z, d6, by rw [kf 2 (by decide)]; unfold cSn0; rw [cAdd_2 hkb]; exact d7, fun p a b => by rw [ke p b]; exact d8 p a b⟩⟩
    rw [ke p hp, m6, if_pos (by omega), d5 p hp]
    congr 1
    omega
  · rw [m6]
    split
    · exact h.2.2.2.2.2.2.1 _
    · exact h.2.2.2.2.2.2.1 _
  · rw [mc 1 (by omega) (by omega), mc 3 (by omega) (by omega)]
    constructor
    · split
      · exact (h.2.2.2.2.2.2.2 _).1
      · exact (h.2.2.2.2.2.2.2 _).1
    · split
      · exact (h.2.2.2.2.2.2.2 _).2
      · exact (h.2.2.2.2.2.2.2 _).2
theorem RR_quota {κ μ : KH} {n q t j : Nat} {x : Int32} (h : RR κ μ n q t) (hj : j < 16) (h0 : κ (cVk j) 0 ≠ 0) : RR (up κ (cVk j) 3 x) (up μ 4 j x) n q t := by
  have hl := cVk_lt hj
  obtain ⟨b1, b2⟩ := MVl h.1 hj
  obtain ⟨d1, d2, d3, d4, d5, z, d6, d7, d8⟩ := b2 h0
  have kc : ∀ c, c ≠ cVk j → up κ (cVk j) 3 x c = κ c := fun c a => up_cell a
  refine RR_st h (R3_live h.1 hj (CI_upf (v := j) okS1 hj (by omega) h.1.1.1) (fun d a b => kc d (by omega)) (fun v' hv' hne => ⟨kc _ (by unfold cVk; omega), kc _ (by unfold cVk; omega)⟩) (by rw [kc 1 (by omega)]) (fun d i a b hi => up_ix hi) (fun i _ => by rw [up_cell (by decide)]) (up_cell (by decide)) ⟨by rw [up_ix (by decide), up_cell (by decide)]; exact b1, fun _ => ⟨by rw [up_ix (by decide), up_cell (by decide)]; exact d1, by rw [up_ix (by decide), up_cell (by decide)]; exact d2, by rw [up_self, up_self], by rw [up_ix (by decide), up_cell (by decide)]; exact d4, fun p hp => by rw [kc _ (by omega), up_cell (by decide)]; exact d5 p hp, z, d6, by rw [up_ix (by decide)]; exact d7, fun p a b => by rw [kc _ (by omega)]; exact d8 p a b⟩⟩) (fun d hd => kc d (by omega)) (fun d hd => up_cell (by omega)) (h.2.2.2.2.1.cg (kc 109 (by omega)) (kc 110 (by omega)) (fun v hv => ?_) (fun v hv => ?_)) (fun i => by rw [up_cell (by decide)]; exact h.2.2.2.2.2.2.1 i) (h.2.2.2.2.2.2.2.cg (up_cell (by decide)) (up_cell (by decide)))
  · by_cases hv2 : cVk v = cVk j
    · rw [hv2, up_ix (by decide)]
    · rw [kc _ hv2]
  · by_cases hv2 : cVk v = cVk j
    · rw [hv2, up_ix (by decide)]
    · rw [kc _ hv2]
