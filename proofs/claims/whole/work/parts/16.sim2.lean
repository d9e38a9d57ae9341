/-! what the class's calls leave of a state -/
theorem isS_b {b k : Nat} (hb : isS b) (hk : isV k) : k ≠ b ∧ k + 1 ≠ b ∧ k ≠ b + 34 ∧ k + 1 ≠ b + 34 := by
  obtain ⟨u1, u2, u3, u4, u5, u6⟩ := isS_V hb hk
  exact ⟨fun q => u3 q.symm, fun q => u4 q.symm, fun q => u1 q.symm, fun q => u2 q.symm⟩
section ADDS
variable {κ : KH} {b k : Nat} {z g i j : Int32}
theorem cAdd_0 (h : k ≠ b) : cAdd κ b k z g i j k 0 = 1 := by unfold cAdd; rw [up_cell h]; simp [up]
theorem cAdd_1 (h : k ≠ b) : cAdd κ b k z g i j k 1 = g := by unfold cAdd; rw [up_cell h]; simp [up]
theorem cAdd_2 (h : k ≠ b) : cAdd κ b k z g i j k 2 = z := by unfold cAdd; rw [up_cell h]; simp [up]
theorem cAdd_3 (h : k ≠ b) : cAdd κ b k z g i j k 3 = i := by unfold cAdd; rw [up_cell h]; simp [up]
theorem cAdd_4 (h : k ≠ b) : cAdd κ b k z g i j k 4 = j := by unfold cAdd; rw [up_cell h]; simp [up]
theorem cAdd_5 (h : k ≠ b) : cAdd κ b k z g i j k 5 = κ k 5 := by unfold cAdd; rw [up_cell h]; simp [up]
theorem cAdd_b1 : cAdd κ b k z g i j b 1 = κ b 1 + 1 := by unfold cAdd; exact up_self
theorem cAdd_b0 (h : k ≠ b) : cAdd κ b k z g i j b 0 = κ b 0 := by
  unfold cAdd
  rw [up_ix (by decide), up_cell (Ne.symm h), up_cell (Ne.symm h), up_cell (Ne.symm h), up_cell (Ne.symm h), up_cell (Ne.symm h)]
end ADDS
theorem CI_add {κ : KH} {b v n : Nat} {z g i j : Int32} (hb : isS b) (hv : v < 16) (h : CI κ b n) (h0 : κ (b + 2 + 2 * v) 0 = 0) (hg : is01 g) : CI (cAdd κ b (b + 2 + 2 * v) z g i j) b n := by
  obtain ⟨hV, hU, hC⟩ := h
  have hk : isV (b + 2 + 2 * v) := isV_of hb hv
  obtain ⟨w1, w2, w3, w4⟩ := isS_b hb hk
  obtain ⟨a1, a2, a3, a4, a5, a6⟩ := hV v hv
  have hE : ∀ v', v' < 16 → cAdd κ b (b + 2 + 2 * v) z g i j (b + 2 + 2 * v' + 1) = κ (b + 2 + 2 * v' + 1) := fun v' hv' => cAdd_o (isS_b hb (isV_of hb hv')).2.1 (by omega)
  refine ⟨fun v' hv' => ?_, fun e he => ?_, ?_⟩
  · by_cases hvv : v' = v
    · subst hvv
      refine ⟨by rw [cAdd_0 w1]; exact Or.inr rfl, by rw [cAdd_1 w1]; exact hg, by rw [cAdd_5 w1, a3, cMp_cg (fun p _ => congrFun (hE v' hv') p)], fun p hp => by rw [hE v' hv']; exact a4 p hp, fun q => absurd q (by rw [cAdd_0 w1]; decide +kernel), fun q => by rw [hE v' hv']; exact a6 q⟩
    · have c1 : cAdd κ b (b + 2 + 2 * v) z g i j (b + 2 + 2 * v') = κ (b + 2 + 2 * v') := cAdd_o (isS_b hb (isV_of hb hv')).1 (by omega)
      exact (hV v' hv').cg ⟨fun i _ => by rw [c1], fun q _ => by rw [hE v' hv']⟩ (fun q => by rw [hE v' hv']; exact (hV v' hv').2.2.2.2.2 q)
  · rw [cAdd_o (by omega) (fun q => w3 q.symm), hU e he, cUs_cg _ (fun v' hv' p _ => congrFun (hE v' hv') p)]
  · have hm := sumTo_upd (f := cTh1 κ b) (g := cTh1 (cAdd κ b (b + 2 + 2 * v) z g i j) b) 16 hv (fun v' hv' hne => by unfold cTh1; rw [cAdd_o (isS_b hb (isV_of hb hv')).1 (by omega)])
    have f0 : cTh1 κ b v = 0 := by unfold cTh1; rw [if_pos h0]
    have g0 : cTh1 (cAdd κ b (b + 2 + 2 * v) z g i j) b v = 1 := by unfold cTh1; rw [cAdd_0 w1, if_neg (by decide +kernel)]
    rw [f0, g0] at hm
    have h9 : cVl (cAdd κ b (b + 2 + 2 * v) z g i j) b = cVl κ b + 1 := by
      unfold cVl
      omega
    rw [cAdd_b1, hC, nI_1, h9]
theorem fil_at (κ : KH) (d : Nat) (x : Int32) (i : Nat) : ∀ n, fil κ d x n d i = if i < n then x else κ d i
  | 0 => by rw [if_neg (by omega)]; rfl
  | n + 1 => by
    show up (fil κ d x n) d n x d i = _
    by_cases h : i = n
    · subst h; rw [up_self, if_pos (by omega)]
    · rw [up_ix h, fil_at κ d x i n]
      by_cases h2 : i < n
      · rw [if_pos h2, if_pos (by omega)]
      · rw [if_neg h2, if_neg (by omega)]
theorem cVz_f {κ : KH} {k : Nat} (i : Nat) : cVz κ k k i = if i = 0 ∨ i = 1 ∨ i = 5 then 0 else κ k i := by
  unfold cVz
  rw [fil_o _ _ _ _ (by omega)]
  by_cases h5 : i = 5
  · subst h5; rw [up_self, if_pos (by omega)]
  rw [up_ix h5]
  by_cases h1 : i = 1
  · subst h1; rw [up_self, if_pos (by omega)]
  rw [up_ix h1]
  by_cases h0 : i = 0
  · subst h0; rw [up_self, if_pos (by omega)]
  rw [up_ix h0, if_neg (by omega)]
theorem cVz_e {κ : KH} {k : Nat} (q : Nat) : cVz κ k (k + 1) q = if q < 40 then -1 else κ (k + 1) q := by
  unfold cVz
  rw [fil_at, up_cell (by omega), up_cell (by omega), up_cell (by omega)]
theorem CV_z {κ : KH} {k n : Nat} (h0 : κ k 0 = 0) (h1 : κ k 1 = 0) (h5 : κ k 5 = 0) (he : ∀ p, p < 40 → κ (k + 1) p = -1) (hX : ∀ q, isX (κ (k + 1) q)) : CV κ k n := by
  refine ⟨Or.inl h0, Or.inl h1, ?_, fun p hp => Or.inl (he p hp), fun _ => he, hX⟩
  have hz : cMp κ k = 0 := sumTo_z 40 (fun p hp => by unfold cMp1; rw [if_pos (he p hp)])
  rw [h5, hz]; rfl
theorem isX_z {n : Nat} {P : Prop} {x : Int32} (hP : P ∨ ¬ P) (h : isX x) (y : Int32) (f : P → y = -1) (g : ¬ P → y = x) : isX y := by
  rcases hP with q | q
  · exact Or.inl (f q)
  · rw [g q]; exact h
theorem CI_rem {κ : KH} {b v n : Nat} (hb : isS b) (hv : v < 16) (h : CI κ b n) (h0 : κ (b + 2 + 2 * v) 0 ≠ 0) (hz : ∀ p, p < 40 → κ (b + 2 + 2 * v + 1) p = -1) : CI (up (cVz κ (b + 2 + 2 * v)) b 1 (κ b 1 - 1)) b n := by
  obtain ⟨hV, hU, hC⟩ := h
  have hk : isV (b + 2 + 2 * v) := isV_of hb hv
  obtain ⟨w1, w2, w3, w4⟩ := isS_b hb hk
  obtain ⟨a1, a2, a3, a4, a5, a6⟩ := hV v hv
  have hE : ∀ v', v' < 16 → ∀ q, up (cVz κ (b + 2 + 2 * v)) b 1 (κ b 1 - 1) (b + 2 + 2 * v' + 1) q = κ (b + 2 + 2 * v' + 1) q := fun v' hv' q => by
    rw [up_cell (isS_b hb (isV_of hb hv')).2.1]
    by_cases hvv : v' = v
    · subst hvv
      rw [cVz_e]
      split
      · rename_i hq; exact (hz q hq).symm
      · rfl
    · rw [cVz_o κ (by omega) (by omega)]
  refine ⟨fun v' hv' => ?_, fun e he => ?_, ?_⟩
  · by_cases hvv : v' = v
    · subst hvv
      exact CV_z (by rw [up_cell w1, cVz_f]; rfl) (by rw [up_cell w1, cVz_f]; rfl) (by rw [up_cell w1, cVz_f]; rfl) (fun p hp => by rw [hE v' hv']; exact hz p hp) (fun q => by rw [hE v' hv']; exact a6 q)
    · have c1 : up (cVz κ (b + 2 + 2 * v)) b 1 (κ b 1 - 1) (b + 2 + 2 * v') = κ (b + 2 + 2 * v') := by
        rw [up_cell (isS_b hb (isV_of hb hv')).1, cVz_o κ (by omega) (by omega)]
      exact (hV v' hv').cg ⟨fun i _ => by rw [c1], fun q _ => hE v' hv' q⟩ (fun q => by rw [hE v' hv']; exact (hV v' hv').2.2.2.2.2 q)
  · rw [up_cell (by omega), cVz_o κ (fun q => w3 q.symm) (fun q => w4 q.symm), hU e he, cUs_cg _ (fun v' hv' p _ => hE v' hv' p)]
  · have hm := sumTo_upd (f := cTh1 κ b) (g := cTh1 (up (cVz κ (b + 2 + 2 * v)) b 1 (κ b 1 - 1)) b) 16 hv (fun v' hv' hne => by unfold cTh1; rw [up_cell (isS_b hb (isV_of hb hv')).1, cVz_o κ (by omega) (by omega)])
    have f0 : cTh1 κ b v = 1 := by unfold cTh1; rw [if_neg h0]
    have g0 : cTh1 (up (cVz κ (b + 2 + 2 * v)) b 1 (κ b 1 - 1)) b v = 0 := by unfold cTh1; rw [up_cell w1, cVz_f]; rfl
    rw [f0, g0] at hm
    have hm2 : cVl κ b = cVl (up (cVz κ (b + 2 + 2 * v)) b 1 (κ b 1 - 1)) b + 1 := by
      unfold cVl
      omega
    have e9 : up (cVz κ (b + 2 + 2 * v)) b 1 (κ b 1 - 1) b 1 = κ b 1 - 1 := up_self
    refine e9.trans ?_
    generalize cVl (up (cVz κ (b + 2 + 2 * v)) b 1 (κ b 1 - 1)) b = X at hm2 ⊢
    rw [hC, hm2, nI_pred]
/-! copies of states -/
section CP
variable {κ : KH} {k j : Nat}
theorem cVc_f (hkj : k ≠ j) {i : Nat} (hi : i < 6) : cVc κ k j k i = κ j i := by
  unfold cVc
  rw [cpy_cell (by omega)]
  rcases (show i = 0 ∨ i = 1 ∨ i = 2 ∨ i = 3 ∨ i = 4 ∨ i = 5 by omega) with rfl | rfl | rfl | rfl | rfl | rfl <;> simp [up]
theorem cVc_e (hk : isV k) (hj : isV j) (q : Nat) : cVc κ k j (k + 1) q = if q < 40 then κ (j + 1) q else κ (k + 1) q := by
  have h1 : j + 1 ≠ k := fun z => isV_par hk hj z.symm
  unfold cVc cpy
  by_cases h : q < 40
  · rw [if_pos ⟨rfl, h⟩, if_pos h, up_cell h1, up_cell h1, up_cell h1, up_cell h1, up_cell h1, up_cell h1]
  · rw [if_neg (fun z => h z.2), if_neg h, up_cell (by omega), up_cell (by omega), up_cell (by omega), up_cell (by omega), up_cell (by omega), up_cell (by omega)]
theorem cVc_o {c : Nat} (h1 : c ≠ k) (h2 : c ≠ k + 1) : cVc κ k j c = κ c := by
  unfold cVc
  rw [cpy_cell h2, up_cell h1, up_cell h1, up_cell h1, up_cell h1, up_cell h1, up_cell h1]
end CP
theorem isS_3 {a b : Nat} (ha : isS a) (hb : isS b) (h : a ≠ b) {v : Nat} (hv : v < 16) : ∀ w, w < 16 → (a + 2 + 2 * v ≠ b + 2 + 2 * w ∧ a + 2 + 2 * v ≠ b + 2 + 2 * w + 1) ∧ (a + 2 + 2 * v + 1 ≠ b + 2 + 2 * w ∧ a + 2 + 2 * v + 1 ≠ b + 2 + 2 * w + 1) := by
  intro w hw
  have h1 := isS_2 ha hb h v w hv hw
  have h2 := isS_2 hb ha (Ne.symm h) w v hw hv
  exact ⟨h1, fun q => h2.2 q.symm, by omega⟩
theorem cSci {b a : Nat} (hb : isS b) (ha : isS a) (hab : a ≠ b) (κ : KH) : ∀ i, i ≤ 16 → ∀ v, v < 16 →
    (v < i → (∀ f, f < 6 → iterK (cSc1 b a) i κ (b + 2 + 2 * v) f = κ (a + 2 + 2 * v) f) ∧ ∀ q, iterK (cSc1 b a) i κ (b + 2 + 2 * v + 1) q = if q < 40 then κ (a + 2 + 2 * v + 1) q else κ (b + 2 + 2 * v + 1) q) ∧
    (¬ v < i → iterK (cSc1 b a) i κ (b + 2 + 2 * v) = κ (b + 2 + 2 * v) ∧ iterK (cSc1 b a) i κ (b + 2 + 2 * v + 1) = κ (b + 2 + 2 * v + 1))
  | 0, _, v, hv => ⟨fun q => absurd q (by omega), fun _ => ⟨rfl, rfl⟩⟩
  | i + 1, hi, v, hv => by
    have ih := cSci hb ha hab κ i (by omega) v hv
    have hs1 : iterK (cSc1 b a) i κ (a + 2 + 2 * i) = κ (a + 2 + 2 * i) := cSc_o κ (fun w hw => (isS_3 ha hb hab (by omega) w hw).1) i (by omega)
    have hs2 : iterK (cSc1 b a) i κ (a + 2 + 2 * i + 1) = κ (a + 2 + 2 * i + 1) := cSc_o κ (fun w hw => (isS_3 ha hb hab (by omega) w hw).2) i (by omega)
    have hne : b + 2 + 2 * i ≠ a + 2 + 2 * i := fun q => (isS_2 ha hb hab i i (by omega) (by omega)).1 q.symm
    show (v < i + 1 → (∀ f, f < 6 → cVc (iterK (cSc1 b a) i κ) (b + 2 + 2 * i) (a + 2 + 2 * i) (b + 2 + 2 * v) f = _) ∧ ∀ q, cVc (iterK (cSc1 b a) i κ) (b + 2 + 2 * i) (a + 2 + 2 * i) (b + 2 + 2 * v + 1) q = _) ∧ (_ → cVc (iterK (cSc1 b a) i κ) (b + 2 + 2 * i) (a + 2 + 2 * i) (b + 2 + 2 * v) = _ ∧ cVc (iterK (cSc1 b a) i κ) (b + 2 + 2 * i) (a + 2 + 2 * i) (b + 2 + 2 * v + 1) = _)
    by_cases hvi : v = i
    · subst hvi
      have i2 := ih.2 (by omega)
      refine ⟨fun _ => ⟨fun f hf => by rw [cVc_f hne hf, hs1], fun q => ?_⟩, fun q => absurd q (by omega)⟩
      rw [cVc_e (isV_of hb hv) (isV_of ha hv), hs2, i2.2]
    · rw [cVc_o (by omega) (by omega), cVc_o (by omega) (by omega)]
      exact ⟨fun q => ih.1 (by omega), fun q => ih.2 (by omega)⟩
section SCP
variable {κ : KH} {b a : Nat}
theorem cScp_0 (hb : isS b) (ha : isS a) (hab : a ≠ b) : ∀ c, c < 106 → c ≠ b → up (up κ b 0 (κ a 0)) b 1 (κ a 1) c = κ c := fun c _ h => by rw [up_cell h, up_cell h]
theorem cScp_f (hb : isS b) (ha : isS a) (hab : a ≠ b) {v f : Nat} (hv : v < 16) (hf : f < 6) : cScp κ b a (b + 2 + 2 * v) f = κ (a + 2 + 2 * v) f := by
  unfold cScp
  rw [cpy_cell (by omega), ((cSci hb ha hab _ 16 (by omega) v hv).1 hv).1 f hf]
  have h1 := (isS_b hb (isV_of ha hv)).1
  rw [up_cell h1, up_cell h1]
theorem cScp_e (hb : isS b) (ha : isS a) (hab : a ≠ b) {v : Nat} (hv : v < 16) (q : Nat) : cScp κ b a (b + 2 + 2 * v + 1) q = if q < 40 then κ (a + 2 + 2 * v + 1) q else κ (b + 2 + 2 * v + 1) q := by
  unfold cScp
  rw [cpy_cell (by omega), ((cSci hb ha hab _ 16 (by omega) v hv).1 hv).2 q]
  have h1 := (isS_b hb (isV_of ha hv)).2.1
  have h2 := (isS_b hb (isV_of hb hv)).2.1
  rw [up_cell h1, up_cell h1, up_cell h2, up_cell h2]
theorem cScp_u (hb : isS b) (ha : isS a) (hab : a ≠ b) {e : Nat} (he : e < 96) : cScp κ b a (b + 34) e = κ (a + 34) e := by
  unfold cScp cpy
  rw [if_pos ⟨rfl, he⟩, cSc_o _ (fun w hw => ⟨(isS_V ha (isV_of hb hw)).1, (isS_V ha (isV_of hb hw)).2.1⟩) 16 (by omega)]
  have h1 : a + 34 ≠ b := by rcases ha with rfl | rfl | rfl <;> rcases hb with rfl | rfl | rfl <;> decide
  rw [up_cell h1, up_cell h1]
theorem cScp_b (hb : isS b) : cScp κ b a b 0 = κ a 0 ∧ cScp κ b a b 1 = κ a 1 := by
  unfold cScp
  rw [cpy_cell (by omega), cSc_o _ (fun w hw => by omega) 16 (by omega)]
  exact ⟨by rw [up_ix (by decide), up_self], up_self⟩
theorem cScp_o {c : Nat} (h : c < b ∨ b + 34 < c) : cScp κ b a c = κ c := by
  unfold cScp
  rw [cpy_cell (by omega), cSc_o _ (fun w hw => by omega) 16 (by omega), up_cell (by omega), up_cell (by omega)]
theorem cScp_eqS (hb : isS b) (ha : isS a) (hab : a ≠ b) : eqS κ (cScp κ b a) a b :=
  ⟨fun v hv => ⟨fun i hi => cScp_f hb ha hab hv hi, fun p hp => by rw [cScp_e hb ha hab hv, if_pos hp]⟩, fun e he => cScp_u hb ha hab he, (cScp_b hb).1, (cScp_b hb).2⟩
theorem CI_scp {n : Nat} (hb : isS b) (ha : isS a) (hab : a ≠ b) (h : CI κ a n) (h2 : CI κ b n) : CI (cScp κ b a) b n := by
  refine h.cg (cScp_eqS hb ha hab) (fun v hv q => ?_)
  rw [cScp_e hb ha hab hv]
  split
  · exact (h.1 v hv).2.2.2.2.2 q
  · exact (h2.1 v hv).2.2.2.2.2 q
end SCP
theorem cSzi {b : Nat} (κ : KH) : ∀ i, i ≤ 16 → ∀ v, v < 16 →
    (v < i → (∀ f, iterK (cSz1 b) i κ (b + 2 + 2 * v) f = if f = 0 ∨ f = 1 ∨ f = 5 then 0 else κ (b + 2 + 2 * v) f) ∧ ∀ q, iterK (cSz1 b) i κ (b + 2 + 2 * v + 1) q = if q < 40 then -1 else κ (b + 2 + 2 * v + 1) q) ∧
    (¬ v < i → iterK (cSz1 b) i κ (b + 2 + 2 * v) = κ (b + 2 + 2 * v) ∧ iterK (cSz1 b) i κ (b + 2 + 2 * v + 1) = κ (b + 2 + 2 * v + 1))
  | 0, _, v, hv => ⟨fun q => absurd q (by omega), fun _ => ⟨rfl, rfl⟩⟩
  | i + 1, hi, v, hv => by
    have ih := cSzi (b := b) κ i (by omega) v hv
    show (v < i + 1 → (∀ f, cVz (iterK (cSz1 b) i κ) (b + 2 + 2 * i) (b + 2 + 2 * v) f = _) ∧ ∀ q, cVz (iterK (cSz1 b) i κ) (b + 2 + 2 * i) (b + 2 + 2 * v + 1) q = _) ∧ (_ → cVz (iterK (cSz1 b) i κ) (b + 2 + 2 * i) (b + 2 + 2 * v) = _ ∧ cVz (iterK (cSz1 b) i κ) (b + 2 + 2 * i) (b + 2 + 2 * v + 1) = _)
    by_cases hvi : v = i
    · subst hvi
      have i2 := ih.2 (by omega)
      exact ⟨fun _ => ⟨fun f => by rw [cVz_f, i2.1], fun q => by rw [cVz_e, i2.2]⟩, fun q => absurd q (by omega)⟩
    · rw [cVz_o _ (by omega) (by omega), cVz_o _ (by omega) (by omega)]
      exact ⟨fun q => ih.1 (by omega), fun q => ih.2 (by omega)⟩
theorem cSzi_o {b c : Nat} (κ : KH) (h : ∀ v, v < 16 → c ≠ b + 2 + 2 * v ∧ c ≠ b + 2 + 2 * v + 1) : ∀ i, i ≤ 16 → iterK (cSz1 b) i κ c = κ c
  | 0, _ => rfl
  | i + 1, hi => by
    obtain ⟨h1, h2⟩ := h i (by omega)
    show cVz (iterK (cSz1 b) i κ) (b + 2 + 2 * i) c = _
    rw [cVz_o _ h1 h2]
    exact cSzi_o κ h i (by omega)
section SZ
variable {κ : KH} {b : Nat}
theorem cSz_f (hb : isS b) {v : Nat} (hv : v < 16) (f : Nat) : cSz κ b (b + 2 + 2 * v) f = if f = 0 ∨ f = 1 ∨ f = 5 then 0 else κ (b + 2 + 2 * v) f := by
  unfold cSz
  rw [fil_o _ _ _ _ (by omega), ((cSzi _ 16 (by omega) v hv).1 hv).1 f, up_cell (by omega), up_cell (by omega)]
theorem cSz_e (hb : isS b) {v : Nat} (hv : v < 16) (q : Nat) : cSz κ b (b + 2 + 2 * v + 1) q = if q < 40 then -1 else κ (b + 2 + 2 * v + 1) q := by
  unfold cSz
  rw [fil_o _ _ _ _ (by omega), ((cSzi _ 16 (by omega) v hv).1 hv).2 q, up_cell (by omega), up_cell (by omega)]
theorem cSz_u {e : Nat} (he : e < 96) : cSz κ b (b + 34) e = 0 := by
  unfold cSz
  rw [fil_at, if_pos he]
theorem cSz_b : cSz κ b b 0 = 0 ∧ cSz κ b b 1 = 0 := by
  unfold cSz
  rw [fil_o _ _ _ _ (by omega), cSzi_o _ (fun w hw => by omega) 16 (by omega)]
  exact ⟨by rw [up_ix (by decide), up_self], up_self⟩
theorem cSz_o {c : Nat} (h : c < b ∨ b + 34 < c) : cSz κ b c = κ c := by
  unfold cSz
  rw [fil_o _ _ _ _ (by omega), cSzi_o _ (fun w hw => by omega) 16 (by omega), up_cell (by omega), up_cell (by omega)]
theorem CI_z {n : Nat} (hv : ∀ v, v < 16 → κ (b + 2 + 2 * v) 0 = 0 ∧ κ (b + 2 + 2 * v) 1 = 0 ∧ κ (b + 2 + 2 * v) 5 = 0 ∧ (∀ p, p < 40 → κ (b + 2 + 2 * v + 1) p = -1) ∧ ∀ q, isX (κ (b + 2 + 2 * v + 1) q)) (hu : ∀ e, e < 96 → κ (b + 34) e = 0) (hc : κ b 1 = 0) : CI κ b n := by
  refine ⟨fun v h => CV_z (hv v h).1 (hv v h).2.1 (hv v h).2.2.1 (hv v h).2.2.2.1 (hv v h).2.2.2.2, fun e he => ?_, ?_⟩
  · have hz : cUs κ b (nI e) = 0 := sumTo_z 16 (fun v h => sumTo_z 40 (fun p hp => by unfold cG; rw [(hv v h).2.2.2.1 p hp, if_neg (fun q => nI_m1 (by omega) q.symm)]))
    rw [hu e he, hz]; rfl
  · have hz : cVl κ b = 0 := sumTo_z 16 (fun v h => by unfold cTh1; rw [if_pos (hv v h).1])
    rw [hc, hz]; rfl
theorem CI_sz {n : Nat} (hb : isS b) (h : CI κ b n) : CI (cSz κ b) b n := by
  refine CI_z (fun v hv => ⟨by rw [cSz_f hb hv]; rfl, by rw [cSz_f hb hv]; rfl, by rw [cSz_f hb hv]; rfl, fun p hp => by rw [cSz_e hb hv, if_pos hp], fun q => ?_⟩) (fun e he => cSz_u he) cSz_b.2
  rw [cSz_e hb hv]
  split
  · exact Or.inl rfl
  · exact (h.1 v hv).2.2.2.2.2 q
end SZ
theorem cSn_f {κ : KH} {i j f : Nat} (hj : j < 16) (hf : f ≠ 5) : ∀ p, iterK (cSn κ i j) p (cSn0 κ i j) (cVk j) f = cSn0 κ i j (cVk j) f
  | 0 => rfl
  | p + 1 => by
    have hl := cVk_lt hj
    show cSet (iterK (cSn κ i j) p (cSn0 κ i j)) 1 (cVk j) p (κ (cVk i + 1) p) (cVk j) f = _
    rw [cSetf (by omega) hf]; exact cSn_f hj hf p
theorem cSn_o {κ : KH} {i j c : Nat} (h1 : c ≠ 35) (h2 : c ≠ cVk j) (h3 : c ≠ cVk j + 1) : ∀ p, iterK (cSn κ i j) p (cSn0 κ i j) c = cSn0 κ i j c
  | 0 => rfl
  | p + 1 => by
    show cSet (iterK (cSn κ i j) p (cSn0 κ i j)) 1 (cVk j) p (κ (cVk i + 1) p) c = _
    rw [cSet_o h1 h2 h3]; exact cSn_o h1 h2 h3 p
theorem CI_sni {κ : KH} {i j n : Nat} (hi : i < 16) (hj : j < 16) (hn : n ≤ 96) (h : CI κ 1 n) (h0 : κ (cVk j) 0 = 0) : ∀ p, p ≤ 40 → CI (iterK (cSn κ i j) p (cSn0 κ i j)) 1 n
  | 0, _ => CI_add (v := j) okS1 hj h h0 (h.1 i hi).2.1
  | p + 1, hp => by
    have hl := cVk_lt hj
    refine CI_set (v := j) okS1 hj (by omega) hn (CI_sni hi hj hn h h0 p (by omega)) ((h.1 i hi).2.2.2.1 p (by omega)) (Or.inr ?_)
    have h9 := cSn_f (κ := κ) (i := i) hj (show 0 ≠ 5 by decide) p
    have h8 : cSn0 κ i j (cVk j) 0 = 1 := cAdd_0 (by omega)
    rw [h8] at h9
    intro q
    exact absurd (h9.symm.trans q) (by decide +kernel)
