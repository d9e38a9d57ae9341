/-! states that become as others are; the pool; the numbers -/
def RS (κ μ : KH) (b s n : Nat) : Prop := CI κ b n ∧ MR κ μ b s
theorem mCpi {s t : Nat} (hst : s ≠ t) (hs : s < 3) (ht : t < 3) (μ : KH) : ∀ i, i ≤ 16 →
    (∀ c, 1 ≤ c → c ≤ 5 → ∀ x, iterK (mCp1 s t) i μ c x = if 16 * t ≤ x ∧ x < 16 * t + i then μ c (16 * s + (x - 16 * t)) else μ c x) ∧
    (∀ x, iterK (mCp1 s t) i μ 6 x = if 640 * t ≤ x ∧ x < 640 * t + 40 * i then μ 6 (640 * s + (x - 640 * t)) else μ 6 x) ∧
    (∀ c, c = 0 ∨ 7 ≤ c → iterK (mCp1 s t) i μ c = μ c)
  | 0, _ => ⟨fun c _ _ x => by rw [if_neg (by omega)]; rfl, fun x => by rw [if_neg (by omega)]; rfl, fun c _ => rfl⟩
  | i + 1, hi => by
    obtain ⟨h1, h2, h3⟩ := mCpi hst hs ht μ i (by omega)
    have hab : 16 * s + i ≠ 16 * t + i := by omega
    refine ⟨fun c a b x => ?_, fun x => ?_, fun c hc => ?_⟩
    · show up (mCpV (iterK (mCp1 s t) i μ) (16 * s + i) (16 * t + i)) 5 (16 * t + i) (mCpV (iterK (mCp1 s t) i μ) (16 * s + i) (16 * t + i) 5 (16 * s + i)) c x = _
      by_cases h5 : c = 5
      · subst h5
        by_cases hx : x = 16 * t + i
        · subst hx
          rw [up_self, mCpV_o (by omega), h1 5 (by omega) (by omega), if_neg (by omega), if_pos (by omega)]
          congr 1; omega
        · rw [up_ix hx, mCpV_o (by omega), h1 5 (by omega) (by omega)]
          by_cases hh : 16 * t ≤ x ∧ x < 16 * t + i
          · rw [if_pos hh, if_pos (by omega)]
          · rw [if_neg hh, if_neg (by omega)]
      · rw [up_cell h5, mCpV_c a (by omega)]
        by_cases hx : x = 16 * t + i
        · subst hx
          rw [if_pos rfl, h1 c a b, if_neg (by omega), if_pos (by omega)]
          congr 1; omega
        · rw [if_neg hx, h1 c a b]
          by_cases hh : 16 * t ≤ x ∧ x < 16 * t + i
          · rw [if_pos hh, if_pos (by omega)]
          · rw [if_neg hh, if_neg (by omega)]
    · show up (mCpV (iterK (mCp1 s t) i μ) (16 * s + i) (16 * t + i)) 5 (16 * t + i) (mCpV (iterK (mCp1 s t) i μ) (16 * s + i) (16 * t + i) 5 (16 * s + i)) 6 x = _
      rw [up_cell (by decide), mCpV_6 hab]
      by_cases hx : 40 * (16 * t + i) ≤ x ∧ x < 40 * (16 * t + i) + 40
      · rw [if_pos hx, h2, if_neg (by omega), if_pos (by omega)]
        congr 1; omega
      · rw [if_neg hx, h2]
        by_cases hh : 640 * t ≤ x ∧ x < 640 * t + 40 * i
        · rw [if_pos hh, if_pos (by omega)]
        · rw [if_neg hh, if_neg (by omega)]
    · show up (mCpV (iterK (mCp1 s t) i μ) (16 * s + i) (16 * t + i)) 5 (16 * t + i) (mCpV (iterK (mCp1 s t) i μ) (16 * s + i) (16 * t + i) 5 (16 * s + i)) c = _
      rw [up_cell (by omega), mCpV_o (by omega), h3 c hc]
section CPS
variable {κ μ : KH} {b b' s t n : Nat}
theorem mCp_c (hst : s ≠ t) (hs : s < 3) (ht : t < 3) {c : Nat} (a1 : 1 ≤ c) (a2 : c ≤ 5) (x : Nat) : mCp μ s t c x = if 16 * t ≤ x ∧ x < 16 * t + 16 then μ c (16 * s + (x - 16 * t)) else μ c x := by
  unfold mCp
  rw [up_cell (by omega), (mCpi hst hs ht μ 16 (by omega)).1 c a1 a2]
theorem mCp_6 (hst : s ≠ t) (hs : s < 3) (ht : t < 3) (x : Nat) : mCp μ s t 6 x = if 640 * t ≤ x ∧ x < 640 * t + 640 then μ 6 (640 * s + (x - 640 * t)) else μ 6 x := by
  unfold mCp
  rw [up_cell (by omega), (mCpi hst hs ht μ 16 (by omega)).2.1]
theorem mCp_7 (hst : s ≠ t) (hs : s < 3) (ht : t < 3) (x : Nat) : mCp μ s t 7 x = if x = t then μ 7 s else μ 7 x := by
  unfold mCp
  have h := (mCpi hst hs ht μ 16 (by omega)).2.2 7 (by omega)
  by_cases hx : x = t
  · subst hx; rw [up_self, if_pos rfl, h]
  · rw [up_ix hx, if_neg hx, h]
theorem mCp_o (hst : s ≠ t) (hs : s < 3) (ht : t < 3) {c : Nat} (hc : c = 0 ∨ 8 ≤ c) : mCp μ s t c = μ c := by
  unfold mCp
  rw [up_cell (by omega), (mCpi hst hs ht μ 16 (by omega)).2.2 c (by omega)]
theorem RS_cpT (hb' : isS b') (hb : isS b) (hbb : b ≠ b') (hst : s ≠ t) (hs : s < 3) (ht : t < 3) (h : RS κ μ b s n) (h2 : CI κ b' n) : RS (cScp κ b' b) (mCp μ s t) b' t n := by
  refine ⟨CI_scp hb' hb hbb h.1 h2, h.2.cg (cScp_eqS hb' hb hbb) (fun v hv => ?_) (by rw [mCp_7 hst hs ht, if_pos rfl])⟩
  have hc : ∀ c, 1 ≤ c → c ≤ 5 → mCp μ s t c (16 * t + v) = μ c (16 * s + v) := fun c a1 a2 => by rw [mCp_c hst hs ht a1 a2, if_pos (by omega)]; congr 1; omega
  exact ⟨hc 1 (by omega) (by omega), hc 2 (by omega) (by omega), hc 3 (by omega) (by omega), hc 4 (by omega) (by omega), hc 5 (by omega) (by omega), fun p hp => by rw [mCp_6 hst hs ht, if_pos (by omega)]; congr 1; omega⟩
theorem RS_cpO {d r : Nat} (hd : ∀ c, d ≤ c → c ≤ d + 34 → c < b' ∨ b' + 34 < c) (hr : r ≠ t) (hr3 : r < 3) (hst : s ≠ t) (hs : s < 3) (ht : t < 3) (h : RS κ μ d r n) : RS (cScp κ b' b) (mCp μ s t) d r n := by
  refine ⟨h.1.same (fun c a1 a2 => cScp_o (hd c a1 a2)), h.2.same (fun c a1 a2 => cScp_o (hd c a1 a2)) (fun v hv => ?_) (by rw [mCp_7 hst hs ht, if_neg hr])⟩
  have hc : ∀ c, 1 ≤ c → c ≤ 5 → mCp μ s t c (16 * r + v) = μ c (16 * r + v) := fun c a1 a2 => by rw [mCp_c hst hs ht a1 a2, if_neg (by omega)]
  exact ⟨hc 1 (by omega) (by omega), hc 2 (by omega) (by omega), hc 3 (by omega) (by omega), hc 4 (by omega) (by omega), hc 5 (by omega) (by omega), fun p hp => by rw [mCp_6 hst hs ht, if_neg (by omega)]⟩
theorem mCp_X (hst : s ≠ t) (hs : s < 3) (ht : t < 3) (hX : ∀ j, isX (μ 6 j)) : ∀ j, isX (mCp μ s t 6 j) := fun j => by
  rw [mCp_6 hst hs ht]
  split
  · exact hX _
  · exact hX _
end CPS
theorem RN_12 {κ κ' μ μ' : KH} {t : Nat} (h : RN κ μ t) (hk : ∀ i, i ≠ 12 → κ' 0 i = κ 0 i) (hm : ∀ i, i ≠ 22 → μ' 0 i = μ 0 i) (e : κ' 0 12 = μ' 0 22) : RN κ' μ' t := by
  obtain ⟨a1, a2, a3, a4, a5, a6, a7, a8, T, b1, b2, b3⟩ := h
  unfold RN
  rw [hk 6 (by decide), hk 7 (by decide), hk 8 (by decide), hk 9 (by decide), hk 10 (by decide), hk 11 (by decide), hm 8 (by decide), hm 16 (by decide), hm 17 (by decide), hm 18 (by decide), hm 19 (by decide), hm 20 (by decide), hm 21 (by decide)]
  exact ⟨a1, a2, a3, a4, a5, a6, e, a8, T, b1, b2, b3⟩
theorem RN_6 {κ κ' μ μ' : KH} {t : Nat} (h : RN κ μ t) (hk : ∀ i, i ≠ 6 → κ' 0 i = κ 0 i) (hm : ∀ i, i ≠ 8 → μ' 0 i = μ 0 i) (e : κ' 0 6 = μ' 0 8) (e1 : is01 (κ' 0 6)) : RN κ' μ' t := by
  obtain ⟨a1, a2, a3, a4, a5, a6, a7, a8, T, b1, b2, b3⟩ := h
  unfold RN
  rw [hk 7 (by decide), hk 8 (by decide), hk 9 (by decide), hk 10 (by decide), hk 11 (by decide), hk 12 (by decide), hm 16 (by decide), hm 17 (by decide), hm 18 (by decide), hm 19 (by decide), hm 20 (by decide), hm 21 (by decide), hm 22 (by decide)]
  exact ⟨⟨e1, a1.2⟩, e, a3, a4, a5, a6, a7, a8, T, b1, b2, b3⟩
section STATES
variable {κ μ : KH} {n q t : Nat}
theorem sS : isS 36 := Or.inr (Or.inl rfl)
theorem sH : isS 71 := Or.inr (Or.inr rfl)
/-- COMMITTED becomes as LIVE is -/
theorem RR_cp01 (h : RR κ μ n q t) : RR (cScp κ 36 1) (mCp μ 0 1) n q t := by
  have ko : ∀ c, c < 36 ∨ 70 < c → cScp κ 36 1 c = κ c := fun c hc => cScp_o (by omega)
  refine RR_st h ⟨RS_cpO (fun c a1 a2 => by omega) (by decide) (by decide) (by decide) (by decide) (by decide) h.1.1, RS_cpT sS okS1 (by decide) (by decide) (by decide) (by decide) h.1.1 h.1.2.1.1, RS_cpO (fun c a1 a2 => by omega) (by decide) (by decide) (by decide) (by decide) (by decide) h.1.2.2⟩ (fun c hc => ko c (by omega)) (fun c hc => mCp_o (by decide) (by decide) (by decide) (by omega)) (h.2.2.2.2.1.cg (ko 109 (by omega)) (ko 110 (by omega)) (fun v hv => by rw [ko _ (by have := cVk_lt hv; omega)]) (fun v hv => by rw [ko _ (by have := cVk_lt hv; omega)])) (mCp_X (by decide) (by decide) (by decide) h.2.2.2.2.2.2.1) (mB_cp h.2.2.2.2.2.2.2 0 1)
/-- HELD becomes as COMMITTED is -/
theorem RR_cp12 (h : RR κ μ n q t) : RR (cScp κ 71 36) (mCp μ 1 2) n q t := by
  have ko : ∀ c, c < 71 ∨ 105 < c → cScp κ 71 36 c = κ c := fun c hc => cScp_o (by omega)
  refine RR_st h ⟨RS_cpO (fun c a1 a2 => by omega) (by decide) (by decide) (by decide) (by decide) (by decide) h.1.1, RS_cpO (fun c a1 a2 => by omega) (by decide) (by decide) (by decide) (by decide) (by decide) h.1.2.1, RS_cpT sH sS (by decide) (by decide) (by decide) (by decide) h.1.2.1 h.1.2.2.1⟩ (fun c hc => ko c (by omega)) (fun c hc => mCp_o (by decide) (by decide) (by decide) (by omega)) (h.2.2.2.2.1.cg (ko 109 (by omega)) (ko 110 (by omega)) (fun v hv => by rw [ko _ (by have := cVk_lt hv; omega)]) (fun v hv => by rw [ko _ (by have := cVk_lt hv; omega)])) (mCp_X (by decide) (by decide) (by decide) h.2.2.2.2.2.2.1) (mB_cp h.2.2.2.2.2.2.2 1 2)
theorem RR_commit (h : RR κ μ n q t) : RR (cHd κ) (up (mCp μ 0 1) 0 22 (mCp μ 0 1 0 22 + 1)) n q t := by
  have h2 := RR_cp01 h
  have hN := h2.2.2.2.2.2.1
  exact RR_0 h2 (fun c hc => up_cell hc) (fun c hc => up_cell hc) (fun i hi => up_ix (by omega)) (RN_12 hN (fun i hi => up_ix hi) (fun i hi => up_ix hi) (by unfold cHd; rw [up_self, up_self, hN.2.2.2.2.2.2.1]))
/-- LIVE becomes as COMMITTED is; nothing waits any more -/
theorem RR_cut (h : RR κ μ n q t) : RR (cCut κ) (mCut μ) n 0 t := by
  have ko : ∀ c, c = 0 ∨ 35 < c → cScp κ 1 36 c = κ c := fun c hc => cScp_o (by omega)
  have mo : ∀ c, c = 0 ∨ 8 ≤ c → mCp μ 1 0 c = μ c := fun c hc => mCp_o (by decide) (by decide) (by decide) hc
  have h3 : R3 (cScp κ 1 36) (mCp μ 1 0) n := ⟨RS_cpT okS1 sS (by decide) (by decide) (by decide) (by decide) h.1.2.1 h.1.1.1, RS_cpO (fun c a1 a2 => by omega) (by decide) (by decide) (by decide) (by decide) (by decide) h.1.2.1, RS_cpO (fun c a1 a2 => by omega) (by decide) (by decide) (by decide) (by decide) (by decide) h.1.2.2⟩
  obtain ⟨_, ⟨p1, p2, p3, p4, p5, p6, p7, p8⟩, hW, ⟨q1, q2, q3, q4⟩, _, hN, hX, hB⟩ := h
  have kc : ∀ c, c ≠ 0 → c ≠ 106 → c ≠ 108 → cCut κ c = cScp κ 1 36 c := fun c a1 a2 a3 => by
    unfold cCut
    rw [up_cell a2, up_cell a1, up_cell a1, up_cell a3]
  have mc : ∀ c, c ≠ 0 → mCut μ c = mCp μ 1 0 c := fun c a1 => by
    unfold mCut
    rw [up_cell a1, up_cell a1, up_cell a1, up_cell a1]
  have m0 : ∀ i, i ≠ 12 → i ≠ 16 → i ≠ 21 → i ≠ 23 → mCut μ 0 i = μ 0 i := fun i a1 a2 a3 a4 => by
    unfold mCut
    rw [up_ix a1, up_ix a2, up_ix a4, up_ix a3, mo 0 (by omega)]
  have k0 : ∀ i, i ≠ 7 → i ≠ 11 → cCut κ 0 i = κ 0 i := fun i a1 a2 => by
    unfold cCut
    rw [up_cell (by decide), up_ix a1, up_ix a2, up_cell (by decide), ko 0 (by omega)]
  have k6 : ∀ i, i ≠ 1 → cCut κ 106 i = κ 106 i := fun i a1 => by
    unfold cCut
    rw [up_ix a1, up_cell (by decide), up_cell (by decide), up_cell (by decide), ko 106 (by omega)]
  refine ⟨h3.same (fun c a1 a2 => kc c (by omega) (by omega) (by omega)) (fun c a1 a2 => mc c (by omega)), ⟨by rw [k6 0 (by decide)]; exact p1, by rw [m0 9 (by decide) (by decide) (by decide) (by decide)]; exact p2, p3, p4, ⟨0, by omega, ?_, ?_⟩, by rw [k6 2 (by decide), m0 13 (by decide) (by decide) (by decide) (by decide)]; exact p6, by rw [k6 3 (by decide), m0 14 (by decide) (by decide) (by decide) (by decide)]; exact p7, by rw [k6 4 (by decide), m0 15 (by decide) (by decide) (by decide) (by decide)]; exact p8⟩, ⟨fun i hi => ?_, fun i hi => ?_⟩, ⟨?_, ?_, by omega, fun k hk => absurd hk (by omega)⟩, fun k hk => absurd hk (by omega), ?_, fun j => ?_, ?_⟩
  · unfold cCut; rw [up_self]; rfl
  · unfold mCut; rw [up_self]; rfl
  · rw [kc 107 (by decide) (by decide) (by decide), ko 107 (by omega), mc 8 (by decide), mo 8 (by omega)]; exact hW.1 i hi
  · rw [kc 112 (by decide) (by decide) (by decide), ko 112 (by omega), mc 9 (by decide), mo 9 (by omega)]; exact hW.2 i hi
  · unfold cCut
    rw [up_cell (by decide), up_cell (by decide), up_cell (by decide), up_self]; rfl
  · unfold mCut
    rw [up_ix (by decide), up_ix (by decide), up_self]; rfl
  · obtain ⟨a1, a2, a3, a4, a5, a6, a7, a8, T, b1, b2, b3⟩ := hN
    have k7 : cCut κ 0 7 = 0 := by
      unfold cCut
      rw [up_cell (by decide), up_self]
    have m16 : mCut μ 0 16 = 0 := by
      unfold mCut
      rw [up_ix (by decide), up_self]
    have k11 : cCut κ 0 11 = κ 0 11 + κ 108 0 := by
      unfold cCut
      rw [up_cell (by decide), up_ix (by decide), up_self, ko 0 (by omega), ko 108 (by omega)]
    have m21 : mCut μ 0 21 = μ 0 21 + μ 0 23 := by
      unfold mCut
      rw [up_ix (by decide), up_ix (by decide), up_ix (by decide), up_self, mo 0 (by omega)]
    refine ⟨⟨by rw [k0 6 (by decide) (by decide)]; exact a1.1, Or.inl k7⟩, by rw [k0 6 (by decide) (by decide), m0 8 (by decide) (by decide) (by decide) (by decide)]; exact a2, by rw [k7, m16], by rw [k0 8 (by decide) (by decide), m0 17 (by decide) (by decide) (by decide) (by decide)]; exact a4, by rw [k0 10 (by decide) (by decide), m0 20 (by decide) (by decide) (by decide) (by decide)]; exact a5, by rw [k11, m21, a6, q1, q2], by rw [k0 12 (by decide) (by decide), m0 22 (by decide) (by decide) (by decide) (by decide)]; exact a7, by rw [k0 8 (by decide) (by decide)]; exact a8, T, b1, by rw [k0 10 (by decide) (by decide)]; exact b2, fun z => absurd (k7.symm.trans z) (by decide +kernel)⟩
  · rw [mc 6 (by decide)]; exact mCp_X (by decide) (by decide) (by decide) hX j
  · exact (mB_cp hB 1 0).cg (mc 1 (by decide)) (mc 3 (by decide))
theorem mClri (s : Nat) (μ : KH) : ∀ i, (∀ c, c ≠ 1 → iterK (mClr s) i μ c = μ c) ∧ ∀ x, iterK (mClr s) i μ 1 x = if 16 * s ≤ x ∧ x < 16 * s + i then 0 else μ 1 x
  | 0 => ⟨fun _ _ => rfl, fun x => by rw [if_neg (by omega)]; rfl⟩
  | i + 1 => by
    obtain ⟨h1, h2⟩ := mClri s μ i
    refine ⟨fun c hc => ?_, fun x => ?_⟩
    · show up (iterK (mClr s) i μ) 1 (16 * s + i) 0 c = _
      rw [up_cell hc, h1 c hc]
    · show up (iterK (mClr s) i μ) 1 (16 * s + i) 0 1 x = _
      by_cases hx : x = 16 * s + i
      · subst hx; rw [up_self, if_pos (by omega)]
      · rw [up_ix hx, h2]
        by_cases hh : 16 * s ≤ x ∧ x < 16 * s + i
        · rw [if_pos hh, if_pos (by omega)]
        · rw [if_neg hh, if_neg (by omega)]
/-- nothing is HELD any more -/
theorem RR_release (h : RR κ μ n q t) : RR (up (cSz κ 71) 0 6 0) (up (iterK (mClr 2) 16 (up μ 0 8 0)) 7 2 0) n q t := by
  have ko : ∀ c, c < 71 ∨ 105 < c → cSz κ 71 c = κ c := fun c hc => cSz_o (by omega)
  have mo : ∀ c, c ≠ 1 → c ≠ 7 → up (iterK (mClr 2) 16 μ) 7 2 0 c = μ c := fun c a1 a2 => by rw [up_cell a2, (mClri 2 μ 16).1 c a1]
  have m1 : ∀ x, up (iterK (mClr 2) 16 μ) 7 2 0 1 x = if 32 ≤ x ∧ x < 48 then 0 else μ 1 x := fun x => by rw [up_cell (by decide), (mClri 2 μ 16).2]
  have m7 : ∀ x, up (iterK (mClr 2) 16 μ) 7 2 0 7 x = if x = 2 then 0 else μ 7 x := fun x => by
    by_cases hx : x = 2
    · subst hx; rw [up_self, if_pos rfl]
    · rw [up_ix hx, if_neg hx, (mClri 2 μ 16).1 7 (by decide)]
  have hO : ∀ d r, (d = 1 ∧ r = 0) ∨ (d = 36 ∧ r = 1) → RS κ μ d r n → RS (cSz κ 71) (up (iterK (mClr 2) 16 μ) 7 2 0) d r n := fun d r hdr hh => by
    refine ⟨hh.1.same (fun c a1 a2 => ko c (by omega)), hh.2.same (fun c a1 a2 => ko c (by omega)) (fun v hv => ⟨by rw [m1, if_neg (by omega)], by rw [mo 2 (by decide) (by decide)], by rw [mo 3 (by decide) (by decide)], by rw [mo 4 (by decide) (by decide)], by rw [mo 5 (by decide) (by decide)], fun p _ => by rw [mo 6 (by decide) (by decide)]⟩) (by rw [m7, if_neg (by omega)])⟩
  have hT : RS (cSz κ 71) (up (iterK (mClr 2) 16 μ) 7 2 0) 71 2 n := by
    refine ⟨CI_sz sH h.1.2.2.1, fun v hv => ⟨?_, fun q => absurd ?_ q⟩, ?_⟩
    · rw [cSz_f sH hv, m1, if_pos (by omega), if_pos (by omega)]
    · rw [cSz_f sH hv]; rfl
    · rw [cSz_b.1, m7, if_pos rfl]
  have h2 : RR (cSz κ 71) (up (iterK (mClr 2) 16 μ) 7 2 0) n q t := by
    refine RR_st h ⟨hO 1 0 (Or.inl ⟨rfl, rfl⟩) h.1.1, hO 36 1 (Or.inr ⟨rfl, rfl⟩) h.1.2.1, hT⟩ (fun c hc => ko c (by omega)) (fun c hc => mo c (by omega) (by omega)) (h.2.2.2.2.1.cg (ko 109 (by omega)) (ko 110 (by omega)) (fun v hv => by rw [ko _ (by have := cVk_lt hv; omega)]) (fun v hv => by rw [ko _ (by have := cVk_lt hv; omega)])) (fun j => by rw [mo 6 (by decide) (by decide)]; exact h.2.2.2.2.2.2.1 j) (fun i => ⟨?_, by rw [mo 3 (by decide) (by decide)]; exact (h.2.2.2.2.2.2.2 i).2⟩)
    rw [m1]
    split
    · exact Or.inl rfl
    · exact (h.2.2.2.2.2.2.2 i).1
  have mm : ∀ c, c ≠ 0 → up (iterK (mClr 2) 16 (up μ 0 8 0)) 7 2 0 c = up (iterK (mClr 2) 16 μ) 7 2 0 c := fun c hc => by
    funext x
    by_cases h7 : c = 7
    · subst h7
      by_cases hx : x = 2
      · subst hx; rw [up_self, up_self]
      · rw [up_ix hx, up_ix hx, (mClri 2 _ 16).1 7 (by decide), (mClri 2 _ 16).1 7 (by decide), up_cell hc]
    · rw [up_cell h7, up_cell h7]
      by_cases h1 : c = 1
      · subst h1; rw [(mClri 2 _ 16).2, (mClri 2 _ 16).2, up_cell hc]
      · rw [(mClri 2 _ 16).1 c h1, (mClri 2 _ 16).1 c h1, up_cell hc]
  have m0 : ∀ i, up (iterK (mClr 2) 16 (up μ 0 8 0)) 7 2 0 0 i = up μ 0 8 0 0 i := fun i => by rw [up_cell (by decide), (mClri 2 _ 16).1 0 (by decide)]
  have mb : ∀ i, up (iterK (mClr 2) 16 μ) 7 2 0 0 i = μ 0 i := fun i => by rw [mo 0 (by decide) (by decide)]
  have mz : ∀ i, i ≠ 8 → up (iterK (mClr 2) 16 (up μ 0 8 0)) 7 2 0 0 i = up (iterK (mClr 2) 16 μ) 7 2 0 0 i := fun i hi => by rw [m0, mb, up_ix hi]
  exact RR_0 h2 (fun c hc => up_cell hc) mm (fun i hi => mz i (by omega)) (RN_6 h2.2.2.2.2.2.1 (fun i hi => up_ix hi) mz (by rw [up_self, m0, up_self]) (Or.inl up_self))
theorem RR_hold (h : RR κ μ n q t) : RR (up (cScp κ 71 36) 0 6 1) (mCp (up μ 0 8 1) 1 2) n q t := by
  have h2 := RR_cp12 h
  have mc : ∀ c, c ≠ 0 → mCp (up μ 0 8 1) 1 2 c = mCp μ 1 2 c := fun c hc => by
    funext x
    by_cases h7 : c = 7
    · subst h7; rw [mCp_7 (by decide) (by decide) (by decide), mCp_7 (by decide) (by decide) (by decide), up_cell hc]
    · by_cases h6 : c = 6
      · subst h6; rw [mCp_6 (by decide) (by decide) (by decide), mCp_6 (by decide) (by decide) (by decide), up_cell hc]
      · by_cases h5 : c ≤ 5
        · rw [mCp_c (by decide) (by decide) (by decide) (by omega) h5, mCp_c (by decide) (by decide) (by decide) (by omega) h5, up_cell hc]
        · rw [mCp_o (by decide) (by decide) (by decide) (by omega), mCp_o (by decide) (by decide) (by decide) (by omega), up_cell hc]
  have m0 : ∀ i, i ≠ 8 → mCp (up μ 0 8 1) 1 2 0 i = mCp μ 1 2 0 i := fun i hi => by rw [mCp_o (by decide) (by decide) (by decide) (by omega), mCp_o (by decide) (by decide) (by decide) (by omega), up_ix hi]
  have m8 : mCp (up μ 0 8 1) 1 2 0 8 = 1 := by rw [mCp_o (by decide) (by decide) (by decide) (by omega), up_self]
  exact RR_0 h2 (fun c hc => up_cell hc) mc (fun i hi => m0 i (by omega)) (RN_6 h2.2.2.2.2.2.1 (fun i hi => up_ix hi) m0 (by rw [up_self, m8]) (Or.inr up_self))
end STATES
