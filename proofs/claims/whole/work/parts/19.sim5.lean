/-! waiting, told by both sides -/
theorem anyTo_cg {f g : Nat → Bool} : ∀ n, (∀ i, i < n → f i = g i) → anyTo f n = anyTo g n
  | 0, _ => rfl
  | n + 1, h => by rw [anyTo, anyTo, anyTo_cg n (fun i hi => h i (by omega)), h n (by omega)]
theorem anyTo_iff {f : Nat → Bool} : ∀ n, anyTo f n = true ↔ ∃ i, i < n ∧ f i = true
  | 0 => ⟨fun h => absurd h (by rw [anyTo]; decide), fun ⟨i, hi, _⟩ => absurd hi (by omega)⟩
  | n + 1 => by
    rw [anyTo, Bool.or_eq_true, anyTo_iff n]
    constructor
    · rintro (⟨i, hi, hf⟩ | h)
      · exact ⟨i, by omega, hf⟩
      · exact ⟨n, by omega, h⟩
    · rintro ⟨i, hi, hf⟩
      by_cases hin : i = n
      · subst hin; exact Or.inr hf
      · exact Or.inl ⟨i, by omega, hf⟩
theorem nI_q4 {w : Nat} (hw : w < 2 ^ 31) : nI w / 4 = nI (w / 4) := cv_div hw (by decide) (by decide)
theorem cW1_n {κ : KH} {v : Int32} {a b w k : Nat} (h : κ 110 k = nI w) (hw : w < 160) (ha : a < 1000) (hb : b < 1000) : cW1 κ v (nI a) (nI b) k = (decide (κ 109 k = v) && decide (a ≤ w / 4 ∧ w / 4 < b)) := by
  unfold cW1
  rw [h, nI_q4 (by omega), decide_eq_decide.mpr (nI_leI (show a < 2 ^ 31 by omega) (show w / 4 < 2 ^ 31 by omega)), decide_eq_decide.mpr (nI_ltI (show w / 4 < 2 ^ 31 by omega) (show b < 2 ^ 31 by omega)), Bool.and_assoc, Bool.decide_and]
theorem mW1_n {μ : KH} {v p w k : Nat} (h : μ 11 k = nI w) (hw : w < 160) (hp : p < 1000) : mW1 μ v p k = (decide (μ 10 k = nI v) && decide (w / 4 = p)) := by
  unfold mW1
  rw [h, nI_q4 (by omega), decide_eq_decide.mpr (nI_eq (show w / 4 < 2 ^ 31 by omega) (show p < 2 ^ 31 by omega))]
section WAITS
variable {κ μ : KH} {n q t : Nat}
theorem wt_eq (h : RR κ μ n q t) {v p : Nat} (hp : p < 100) : cWt κ q (nI v) (nI p) (nI (p + 1)) = mWait μ q v p := by
  refine anyTo_cg q (fun k hk => ?_)
  obtain ⟨v', w, z, a1, a2, a3, a4, a5, a6, a7⟩ := h.2.2.2.2.1 k hk
  obtain ⟨b1, b2, b3⟩ := h.2.2.2.1.2.2.2 k hk
  rw [cW1_n a4 (by omega) (by omega) (by omega), mW1_n (b2.symm.trans a4) (by omega) (by omega), b1]
  congr 1
  exact decide_eq_decide.mpr ⟨fun z => by omega, fun z => by omega⟩
theorem bool_iff {a b : Bool} (h : a = true ↔ b = true) : a = b := by
  cases a <;> cases b <;> simp_all
theorem win_eq (h : RR κ μ n q t) {v a b c : Nat} (ha : a < 100) (hb : b < 100) (hc : c < 100) (hbc : ∀ k, k < q → κ 109 k = nI v → ∀ w, κ 110 k = nI w → w < 160 → (w / 4 < b ↔ w / 4 < c)) : cWt κ q (nI v) (nI a) (nI c) = mWIn μ q v a (b - a) := by
  refine bool_iff ?_
  unfold cWt mWIn
  rw [anyTo_iff, anyTo_iff]
  constructor
  · rintro ⟨k, hk, hf⟩
    obtain ⟨v', w, z, a1, a2, a3, a4, a5, a6, a7⟩ := h.2.2.2.2.1 k hk
    obtain ⟨b1, b2, b3⟩ := h.2.2.2.1.2.2.2 k hk
    rw [cW1_n a4 (by omega) (by omega) (by omega), Bool.and_eq_true, decide_eq_true_eq, decide_eq_true_eq] at hf
    have hwb := (hbc k hk hf.1 w a4 (by omega)).mpr hf.2.2
    refine ⟨w / 4 - a, by omega, ?_⟩
    show anyTo _ _ = true
    rw [anyTo_iff]
    refine ⟨k, hk, ?_⟩
    rw [mW1_n (b2.symm.trans a4) (by omega) (by omega), Bool.and_eq_true, decide_eq_true_eq, decide_eq_true_eq, ← b1]
    exact ⟨hf.1, by omega⟩
  · rintro ⟨j, hj, hf⟩
    have hf : anyTo (mW1 μ v (a + j)) q = true := hf
    rw [anyTo_iff] at hf
    obtain ⟨k, hk, hf⟩ := hf
    obtain ⟨v', w, z, a1, a2, a3, a4, a5, a6, a7⟩ := h.2.2.2.2.1 k hk
    obtain ⟨b1, b2, b3⟩ := h.2.2.2.1.2.2.2 k hk
    rw [mW1_n (b2.symm.trans a4) (by omega) (by omega), Bool.and_eq_true, decide_eq_true_eq, decide_eq_true_eq, ← b1] at hf
    refine ⟨k, hk, ?_⟩
    rw [cW1_n a4 (by omega) (by omega) (by omega), Bool.and_eq_true, decide_eq_true_eq, decide_eq_true_eq]
    exact ⟨hf.1, by omega, (hbc k hk hf.1 w a4 (by omega)).mp (by omega)⟩
end WAITS
theorem RR_wait1 {κ μ : KH} {n q t : Nat} (h : RR κ μ n q t) (hm : κ 0 7 = 0) (hp : 0 < κ 0 8) : RR (up (up κ 0 7 1) 0 9 (κ 0 10 + κ 0 8)) (up (up (up μ 0 16 1) 0 18 (μ 0 17)) 0 19 0) n q t := by
  refine RR_0 h (fun c hc => by rw [up_cell hc, up_cell hc]) (fun c hc => by rw [up_cell hc, up_cell hc, up_cell hc]) (fun i hi => by rw [up_ix (by omega), up_ix (by omega), up_ix (by omega)]) ?_
  obtain ⟨a1, a2, a3, a4, a5, a6, a7, ⟨P, hP, e8⟩, T, b1, b2, b3⟩ := h.2.2.2.2.2.1
  have hP0 : 0 < P := by
    rw [e8] at hp
    exact cv_lt (a := 0) (by decide) (by omega) hp
  refine ⟨⟨a1.1, Or.inr (Or.inl rfl)⟩, a2, rfl, a4, a5, a6, a7, ⟨P, hP, e8⟩, T, b1, b2, fun _ => ⟨P, 0, hP0, hP, ?_, rfl, ?_⟩⟩
  · show μ 0 17 = nI P
    rw [← a4]; exact e8
  · show κ 0 10 + κ 0 8 = _
    rw [b2, e8, cv_add]; rfl
theorem RR_fl2 {κ μ μ' : KH} {n q t : Nat} (h : RR κ μ n q t) (hm : ∀ c, c ≠ 0 → μ' c = μ c) (h0 : ∀ i, i ≠ 16 → i ≠ 18 → i ≠ 19 → μ' 0 i = μ 0 i) (h16 : μ' 0 16 = 2) : RR (up κ 0 7 2) μ' n q t := by
  refine RR_0 h (fun c hc => up_cell hc) hm (fun i hi => h0 i (by omega) (by omega) (by omega)) ?_
  obtain ⟨a1, a2, a3, a4, a5, a6, a7, a8, T, b1, b2, b3⟩ := h.2.2.2.2.2.1
  exact ⟨⟨a1.1, Or.inr (Or.inr rfl)⟩, by rw [h0 8 (by decide) (by decide) (by decide)]; exact a2, by rw [h16]; rfl, by rw [h0 17 (by decide) (by decide) (by decide)]; exact a4, by rw [h0 20 (by decide) (by decide) (by decide)]; exact a5, by rw [h0 21 (by decide) (by decide) (by decide)]; exact a6, by rw [h0 22 (by decide) (by decide) (by decide)]; exact a7, a8, T, b1, b2, fun q => absurd (show (2 : Int32) = 1 from q) (by decide +kernel)⟩
theorem sim_write {κ μ : KH} {n q t v w z : Nat} {x : Int32} (h : RR κ μ n q t) (hv : v < 16) (h0 : κ (cVk v) 0 ≠ 0) (hz : κ (cVk v) 2 = nI z) (hz40 : z ≤ 40) (hw : w < 4 * z) :
    RO (cWr κ (cVk v) (nI v) w x).1 (mWr μ v w x).1 t ∧ (cWr κ (cVk v) (nI v) w x).2 = (mWr μ v w x).2 := by
  have h3 := h.1
  have hP := h.2.1
  have hn := hP.2.2.2.1
  obtain ⟨e1, e2⟩ := h.qs
  have hN := h.2.2.2.2.2.1
  have hm : κ 0 7 = μ 0 16 := hN.2.2.1
  have hpt : κ 0 8 = μ 0 17 := hN.2.2.2.1
  have hwt := wt_eq h (v := v) (p := w / 4) (by omega)
  have ho := over_eq (p := w / 4) h3 hv (by omega) h0
  have hne := need_eq (p := w / 4) h3 hn hv (by omega) h0
  have hon : mOver μ v (w / 4) = true → mNeed μ v (w / 4) = true := fun q => by
    unfold mOver at q
    unfold mNeed
    simp only [Bool.and_eq_true, decide_eq_true_eq] at q
    rw [q.1.1]; simp
  unfold cWr
  rw [e1, hwt, hne, ho, hm]
  by_cases c1 : μ 0 16 = 1 ∧ mWait μ q v (w / 4) = true
  · rw [if_pos c1, mWr_1 c1.1 (by rw [e2]; exact c1.2)]
    exact sim_en h hv h0 hz hz40 hw
  · rw [if_neg c1]
    have c1' : ¬ (μ 0 16 = 1 ∧ mWait μ (nQ μ) v (w / 4) = true) := by rw [e2]; exact c1
    by_cases c2 : mNeed μ v (w / 4) = false
    · have c3 : mOver μ v (w / 4) = false := by
        cases hh : mOver μ v (w / 4)
        · rfl
        · exact absurd (hon hh) (by rw [c2]; decide)
      rw [if_pos c2, mWr_3 c1' c3 c2]
      have hp := RR_perf (x := x) h hv h0 hz hz40 hw (fun z => absurd z (by rw [c2]; decide))
      exact ⟨⟨n, q, hp.1⟩, hp.2⟩
    · rw [if_neg c2]
      have c2' : mNeed μ v (w / 4) = true := by simpa using c2
      by_cases c3 : mOver μ v (w / 4) = true
      · rw [if_pos c3, mWr_2 c1' c3]
        exact ⟨⟨n, q, h⟩, rfl⟩
      · rw [if_neg c3]
        have c3' : mOver μ v (w / 4) = false := by simpa using c3
        unfold cWn
        rw [hm, hpt, hP.nCe, fm_eq h3 hn]
        by_cases c4 : μ 0 16 = 1
        · rw [if_pos c4, mWr_4 c1' c3' c2' (mWm_i (fun q => absurd (c4.symm.trans q.1) (by decide +kernel))) c4]
          exact sim_en h hv h0 hz hz40 hw
        · rw [if_neg c4]
          by_cases c5 : mFM μ n = 0
          · rw [if_neg (fun q => q c5)]
            have c5' : mFM μ (nE μ) = 0 := by rw [hP.nEe]; exact c5
            by_cases c6 : μ 0 16 = 0 ∧ 0 < μ 0 17
            · rw [if_pos c6, mWr_4 c1' c3' c2' (mWm_p c6.1 c5' c6.2) rfl, ← hpt]
              have hh := RR_wait1 h (hm.trans c6.1) (by rw [hpt]; exact c6.2)
              rw [← hpt] at hh
              have hlk : up (up κ 0 7 1) 0 9 (κ 0 10 + κ 0 8) (cVk v) = κ (cVk v) := by have := cVk_lt hv; rw [up_cell (by omega), up_cell (by omega)]
              exact sim_en hh hv (by rw [hlk]; exact h0) (by rw [hlk]; exact hz) hz40 hw
            · rw [if_neg c6]
              by_cases c7 : μ 0 16 = 0
              · rw [mWr_5 c1' c3' c2' (mWm_n c7 c5' (fun q => c6 ⟨c7, q⟩)) (by show ¬ (2 : Int32) = 1; decide +kernel) c5']
                refine ⟨⟨n, q, RR_fl2 h (fun c hc => by show up (up (up μ 0 16 2) 0 18 (μ 0 17)) 0 19 0 c = μ c; rw [up_cell hc, up_cell hc, up_cell hc]) (fun i h1 h2 h3 => by show up (up (up μ 0 16 2) 0 18 (μ 0 17)) 0 19 0 0 i = μ 0 i; rw [up_ix h3, up_ix h2, up_ix h1]) rfl⟩, rfl⟩
              · rw [mWr_5 c1' c3' c2' (mWm_i (fun q => c7 q.1)) c4 c5']
                have hmd := hN.1.2
                rw [hm] at hmd
                exact ⟨⟨n, q, RR_fl2 h (fun c hc => rfl) (fun i _ _ _ => rfl) (hmd.resolve_left c7 |>.resolve_left c4)⟩, rfl⟩
          · rw [if_pos c5]
            have c5' : ¬ mFM μ (nE μ) = 0 := by rw [hP.nEe]; exact c5
            rw [mWr_6 c1' c3' c2' (mWm_i (fun q => c5' q.2)) c4 c5']
            have hlk : up κ 0 7 0 (cVk v) = κ (cVk v) := by have := cVk_lt hv; rw [up_cell (by omega)]
            have hp := RR_perf (x := x) (RR_m0 h) hv (by rw [hlk]; exact h0) (by rw [hlk]; exact hz) hz40 hw (fun _ => by rw [mFM_cg (ν := μ) (up_cell (by decide)) (up_cell (by decide))]; exact c5)
            exact ⟨⟨n, q, hp.1⟩, hp.2⟩
