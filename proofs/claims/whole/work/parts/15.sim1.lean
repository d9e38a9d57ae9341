/-! counts, and what holds of one state of the class -/
theorem sumTo_upd {f g : Nat → Nat} {p : Nat} : ∀ n, p < n → (∀ i, i < n → i ≠ p → g i = f i) → sumTo g n + f p = sumTo f n + g p
  | 0, h, _ => absurd h (by omega)
  | n + 1, h, hg => by
    rw [sumTo, sumTo]
    by_cases hp : p = n
    · subst hp
      have h1 : sumTo g p = sumTo f p := sumTo_congr p (fun i hi => hg i (by omega) (by omega))
      omega
    · have h1 := sumTo_upd n (by omega) (fun i hi hne => hg i (by omega) hne)
      have h2 := hg n (by omega) (fun q => hp q.symm)
      omega
theorem sumTo_ge {f : Nat → Nat} {p : Nat} : ∀ n, p < n → f p ≤ sumTo f n
  | 0, h => absurd h (by omega)
  | n + 1, h => by
    rw [sumTo]
    by_cases hp : p = n
    · subst hp; omega
    · have h1 := sumTo_ge (f := f) (p := p) n (by omega)
      omega
theorem sumTo_z {f : Nat → Nat} : ∀ n, (∀ i, i < n → f i = 0) → sumTo f n = 0
  | 0, _ => rfl
  | n + 1, h => by rw [sumTo, sumTo_z n (fun i hi => h i (by omega)), h n (by omega)]
theorem nI_bal {m m' a c : Nat} (h : m' + a = m + c) (ha : a ≤ m) : nI m - nI a + nI c = nI m' := by
  rw [cv_sub ha, cv_add]
  congr 1
  omega
def isXn (n : Nat) (x : Int32) : Prop := x = -1 ∨ ∃ e : Nat, e < n ∧ x = nI e
theorem isXn.mono {n m : Nat} {x : Int32} (h : isXn n x) (hm : n ≤ m) : isXn m x := h.imp id (fun ⟨e, he, hx⟩ => ⟨e, by omega, hx⟩)
theorem isXn.isX {n : Nat} {x : Int32} (h : isXn n x) (hn : n ≤ 96) : isX x := h.imp id (fun ⟨e, he, hx⟩ => ⟨e, by omega, hx⟩)
def cMp1 (κ : KH) (k p : Nat) : Nat := if κ (k + 1) p = -1 then 0 else 1
def cMp (κ : KH) (k : Nat) : Nat := sumTo (cMp1 κ k) 40
def cG (κ : KH) (k : Nat) (e : Int32) (p : Nat) : Nat := if κ (k + 1) p = e then 1 else 0
def cGs (κ : KH) (b : Nat) (e : Int32) (v : Nat) : Nat := sumTo (cG κ (b + 2 + 2 * v) e) 40
def cUs (κ : KH) (b : Nat) (e : Int32) : Nat := sumTo (cGs κ b e) 16
def cTh1 (κ : KH) (b v : Nat) : Nat := if κ (b + 2 + 2 * v) 0 = 0 then 0 else 1
def cVl (κ : KH) (b : Nat) : Nat := sumTo (cTh1 κ b) 16
def CV (κ : KH) (k n : Nat) : Prop := is01 (κ k 0) ∧ is01 (κ k 1) ∧ κ k 5 = nI (cMp κ k) ∧ (∀ p, p < 40 → isXn n (κ (k + 1) p)) ∧ (κ k 0 = 0 → ∀ p, p < 40 → κ (k + 1) p = -1) ∧ (∀ q, isX (κ (k + 1) q))
def CI (κ : KH) (b n : Nat) : Prop := (∀ v, v < 16 → CV κ (b + 2 + 2 * v) n) ∧ (∀ e, e < 96 → κ (b + 34) e = nI (cUs κ b (nI e))) ∧ κ b 1 = nI (cVl κ b)
theorem cMp_le (κ : KH) (k : Nat) : cMp κ k ≤ 40 := Nat.le_trans (sumTo_le (b := 1) (fun i => by unfold cMp1; split <;> omega) 40) (by omega)
theorem cUs_le (κ : KH) (b : Nat) (e : Int32) : cUs κ b e ≤ 640 :=
  Nat.le_trans (sumTo_le (b := 40) (fun v => Nat.le_trans (sumTo_le (b := 1) (fun i => by unfold cG; split <;> omega) 40) (by omega)) 16) (by omega)
theorem cMp_cg {κ κ' : KH} {k k' : Nat} (h : ∀ p, p < 40 → κ' (k' + 1) p = κ (k + 1) p) : cMp κ' k' = cMp κ k :=
  sumTo_congr 40 (fun p hp => by unfold cMp1; rw [h p hp])
theorem cUs_cg {κ κ' : KH} {b b' : Nat} (e : Int32) (h : ∀ v, v < 16 → ∀ p, p < 40 → κ' (b' + 2 + 2 * v + 1) p = κ (b + 2 + 2 * v + 1) p) : cUs κ' b' e = cUs κ b e :=
  sumTo_congr 16 (fun v hv => sumTo_congr 40 (fun p hp => by unfold cG; rw [h v hv p hp]))
theorem cVl_cg {κ κ' : KH} {b b' : Nat} (h : ∀ v, v < 16 → κ' (b' + 2 + 2 * v) 0 = κ (b + 2 + 2 * v) 0) : cVl κ' b' = cVl κ b :=
  sumTo_congr 16 (fun v hv => by unfold cTh1; rw [h v hv])
/-- two volumes of two worlds with the same in them -/
def eqV (κ κ' : KH) (k k' : Nat) : Prop := (∀ i, i < 6 → κ' k' i = κ k i) ∧ ∀ p, p < 40 → κ' (k' + 1) p = κ (k + 1) p
theorem CV.cg {κ κ' : KH} {k k' n : Nat} (h : CV κ k n) (he : eqV κ κ' k k') (hX : ∀ q, isX (κ' (k' + 1) q)) : CV κ' k' n := by
  obtain ⟨h1, h2, h3, h4, h5, h6⟩ := h
  obtain ⟨e1, e2⟩ := he
  refine ⟨by rw [e1 0 (by omega)]; exact h1, by rw [e1 1 (by omega)]; exact h2, by rw [e1 5 (by omega), cMp_cg e2]; exact h3, fun p hp => by rw [e2 p hp]; exact h4 p hp, fun q p hp => by rw [e2 p hp]; exact h5 (by rw [← e1 0 (by omega)]; exact q) p hp, hX⟩
/-- two states with the same in them -/
def eqS (κ κ' : KH) (b b' : Nat) : Prop := (∀ v, v < 16 → eqV κ κ' (b + 2 + 2 * v) (b' + 2 + 2 * v)) ∧ (∀ e, e < 96 → κ' (b' + 34) e = κ (b + 34) e) ∧ κ' b' 0 = κ b 0 ∧ κ' b' 1 = κ b 1
theorem CI.cg {κ κ' : KH} {b b' n : Nat} (h : CI κ b n) (he : eqS κ κ' b b') (hX : ∀ v, v < 16 → ∀ q, isX (κ' (b' + 2 + 2 * v + 1) q)) : CI κ' b' n := by
  obtain ⟨h1, h2, h3⟩ := h
  obtain ⟨e1, e2, e3, e4⟩ := he
  exact ⟨fun v hv => (h1 v hv).cg (e1 v hv) (hX v hv), fun e he => by rw [e2 e he, h2 e he, cUs_cg _ (fun v hv => (e1 v hv).2)], by rw [e4, h3, cVl_cg (fun v hv => (e1 v hv).1 0 (by omega))]⟩
theorem CI.same {κ κ' : KH} {b n : Nat} (h : CI κ b n) (he : ∀ c, b ≤ c → c ≤ b + 34 → κ' c = κ c) : CI κ' b n := by
  refine h.cg ⟨fun v hv => ⟨fun i _ => by rw [he _ (by omega) (by omega)], fun p _ => by rw [he _ (by omega) (by omega)]⟩, fun e _ => by rw [he _ (by omega) (by omega)], by rw [he _ (by omega) (by omega)], by rw [he _ (by omega) (by omega)]⟩ (fun v hv q => by rw [he _ (by omega) (by omega)]; exact (h.1 v hv).2.2.2.2.2 q)
/-! a place of a volume is mapped anew -/
theorem cDec_5 {κ : KH} {b k : Nat} {y : Int32} : cDec κ b k y k 5 = κ k 5 - (if y = -1 then 0 else 1) ∨ k = b + 34 := by
  by_cases hb : k = b + 34
  · exact Or.inr hb
  · refine Or.inl ?_
    unfold cDec
    by_cases hy : y = -1
    · rw [if_pos hy, if_pos hy]; simp
    · rw [if_neg hy, if_neg hy, up_self]
theorem cDec5 {κ : KH} {b k : Nat} {y : Int32} (h : k ≠ b + 34) : cDec κ b k y k 5 = κ k 5 - (if y = -1 then 0 else 1) := cDec_5.resolve_right h
theorem cInc5 {κ : KH} {b k : Nat} {x : Int32} (h : k ≠ b + 34) : cInc κ b k x k 5 = κ k 5 + (if x = -1 then 0 else 1) := by
  unfold cInc
  by_cases hy : x = -1
  · rw [if_pos hy, if_pos hy]; simp
  · rw [if_neg hy, if_neg hy, up_self]
theorem cDecf {κ : KH} {b k i : Nat} {y : Int32} (h : k ≠ b + 34) (hi : i ≠ 5) : cDec κ b k y k i = κ k i := by
  unfold cDec
  by_cases hy : y = -1
  · rw [if_pos hy]
  · rw [if_neg hy, up_ix hi, up_cell h]
theorem cIncf {κ : KH} {b k i : Nat} {y : Int32} (h : k ≠ b + 34) (hi : i ≠ 5) : cInc κ b k y k i = κ k i := by
  unfold cInc
  by_cases hy : y = -1
  · rw [if_pos hy]
  · rw [if_neg hy, up_ix hi, up_cell h]
theorem cDecu {κ : KH} {b k e n : Nat} {y : Int32} (h : b + 34 ≠ k) (hy : isXn n y) (hn : n ≤ 96) (he : e < 96) : cDec κ b k y (b + 34) e = κ (b + 34) e - (if y = nI e then 1 else 0) := by
  rcases hy with rfl | ⟨a, ha, rfl⟩
  · rw [cDec_m, if_neg (fun q => nI_m1 (by omega) q.symm)]; simp
  · rw [cDec_n (by omega), up_cell h]
    by_cases hae : e = a
    · subst hae; rw [up_self, if_pos rfl]
    · rw [up_ix hae, if_neg (fun q => hae ((nI_eq (by omega) (by omega)).mp q).symm)]; simp
theorem cIncu {κ : KH} {b k e n : Nat} {y : Int32} (h : b + 34 ≠ k) (hy : isXn n y) (hn : n ≤ 96) (he : e < 96) : cInc κ b k y (b + 34) e = κ (b + 34) e + (if y = nI e then 1 else 0) := by
  rcases hy with rfl | ⟨a, ha, rfl⟩
  · rw [cInc_m, if_neg (fun q => nI_m1 (by omega) q.symm)]; simp
  · rw [cInc_n (by omega), up_cell h]
    by_cases hae : e = a
    · subst hae; rw [up_self, if_pos rfl]
    · rw [up_ix hae, if_neg (fun q => hae ((nI_eq (by omega) (by omega)).mp q).symm)]; simp
theorem cSet5 {κ : KH} {b k p : Nat} {x : Int32} (h : k ≠ b + 34) : cSet κ b k p x k 5 = κ k 5 - (if κ (k + 1) p = -1 then 0 else 1) + (if x = -1 then 0 else 1) := by
  unfold cSet
  rw [up_cell (by omega), cInc5 h, cDec5 h]
theorem cSetf {κ : KH} {b k p i : Nat} {x : Int32} (h : k ≠ b + 34) (hi : i ≠ 5) : cSet κ b k p x k i = κ k i := by
  unfold cSet
  rw [up_cell (by omega), cIncf h hi, cDecf h hi]
theorem cSetu {κ : KH} {b k p e n : Nat} {x : Int32} (h : b + 34 ≠ k) (h2 : b + 34 ≠ k + 1) (hy : isXn n (κ (k + 1) p)) (hx : isXn n x) (hn : n ≤ 96) (he : e < 96) : cSet κ b k p x (b + 34) e = κ (b + 34) e - (if κ (k + 1) p = nI e then 1 else 0) + (if x = nI e then 1 else 0) := by
  unfold cSet
  rw [up_cell h2, cIncu h hx hn he, cDecu h hy hn he]
theorem i01_a {P : Prop} (hP : P ∨ ¬ P) {a b : Int32} (f : P → a = 1 ∧ b = 1) (g : ¬ P → a = 0 ∧ b = 0) : a = b := by
  rcases hP with h | h
  · rw [(f h).1, (f h).2]
  · rw [(g h).1, (g h).2]
theorem ite_m1 (x : Int32) : (if x = -1 then (0 : Int32) else 1) = nI (if x = -1 then 0 else 1) := by
  by_cases h : x = -1
  · rw [if_pos h, if_pos h]; rfl
  · rw [if_neg h, if_neg h]; rfl
theorem ite_eq (x e : Int32) : (if x = e then (1 : Int32) else 0) = nI (if x = e then 1 else 0) := by
  by_cases h : x = e
  · rw [if_pos h, if_pos h]; rfl
  · rw [if_neg h, if_neg h]; rfl
theorem CI_set {κ : KH} {b v p n : Nat} {x : Int32} (hb : isS b) (hv : v < 16) (hp : p < 40) (hn : n ≤ 96) (h : CI κ b n) (hx : isXn n x) (ht : x = -1 ∨ κ (b + 2 + 2 * v) 0 ≠ 0) : CI (cSet κ b (b + 2 + 2 * v) p x) b n := by
  obtain ⟨hV, hU, hC⟩ := h
  have hk : isV (b + 2 + 2 * v) := isV_of hb hv
  obtain ⟨u1, u2, u3, u4, u5, u6⟩ := isS_V hb hk
  obtain ⟨a1, a2, a3, a4, a5, a6⟩ := hV v hv
  have hkb : b + 2 + 2 * v ≠ b + 34 := fun q => u1 q.symm
  refine ⟨fun v' hv' => ?_, fun e he => ?_, ?_⟩
  · by_cases hvv : v' = v
    · subst hvv
      refine ⟨by rw [cSetf hkb (by decide)]; exact a1, by rw [cSetf hkb (by decide)]; exact a2, ?_, fun q hq => ?_, fun h0 q hq => ?_, fun q => ?_⟩
      · rw [cSet5 hkb, a3, ite_m1, ite_m1]
        have hm := sumTo_upd (f := cMp1 κ (b + 2 + 2 * v')) (g := cMp1 (cSet κ b (b + 2 + 2 * v') p x) (b + 2 + 2 * v')) 40 hp (fun i hi hne => by unfold cMp1; rw [cSet_ext hb hk, if_neg hne])
        have hge := sumTo_ge (f := cMp1 κ (b + 2 + 2 * v')) 40 hp
        have e2 : cMp1 (cSet κ b (b + 2 + 2 * v') p x) (b + 2 + 2 * v') p = if x = -1 then 0 else 1 := by unfold cMp1; rw [cSet_ext hb hk, if_pos rfl]
        rw [e2] at hm
        exact nI_bal hm hge
      · rw [cSet_ext hb hk]
        split
        · exact hx
        · exact a4 q hq
      · rw [cSetf hkb (by decide)] at h0
        rw [cSet_ext hb hk]
        split
        · exact ht.resolve_right (fun z => z h0)
        · exact a5 h0 q hq
      · rw [cSet_ext hb hk]
        split
        · exact hx.isX hn
        · exact a6 q
    · have hk' := isV_of hb hv'
      obtain ⟨w1, w2, w3, w4, w5, w6⟩ := isS_V hb hk'
      have c1 : cSet κ b (b + 2 + 2 * v) p x (b + 2 + 2 * v') = κ (b + 2 + 2 * v') := cSet_o (fun q => w1 q.symm) (by omega) (by omega)
      have c2 : cSet κ b (b + 2 + 2 * v) p x (b + 2 + 2 * v' + 1) = κ (b + 2 + 2 * v' + 1) := cSet_o (fun q => w2 q.symm) (by omega) (by omega)
      exact (hV v' hv').cg ⟨fun i _ => by rw [c1], fun q _ => by rw [c2]⟩ (fun q => by rw [c2]; exact (hV v' hv').2.2.2.2.2 q)
  · rw [cSetu u1 u2 (a4 p hp) hx hn he, hU e he, ite_eq, ite_eq]
    have hi := sumTo_upd (f := cG κ (b + 2 + 2 * v) (nI e)) (g := cG (cSet κ b (b + 2 + 2 * v) p x) (b + 2 + 2 * v) (nI e)) 40 hp (fun i hi hne => by unfold cG; rw [cSet_ext hb hk, if_neg hne])
    have e2 : cG (cSet κ b (b + 2 + 2 * v) p x) (b + 2 + 2 * v) (nI e) p = if x = nI e then 1 else 0 := by unfold cG; rw [cSet_ext hb hk, if_pos rfl]
    have ho := sumTo_upd (f := cGs κ b (nI e)) (g := cGs (cSet κ b (b + 2 + 2 * v) p x) b (nI e)) 16 hv (fun v' hv' hne => by
      have hk' := isV_of hb hv'
      obtain ⟨w1, w2, w3, w4, w5, w6⟩ := isS_V hb hk'
      unfold cGs
      refine sumTo_congr 40 (fun q hq => ?_)
      unfold cG
      rw [cSet_o (fun q => w2 q.symm) (by omega) (by omega)])
    have hg1 := sumTo_ge (f := cG κ (b + 2 + 2 * v) (nI e)) 40 hp
    have hg2 := sumTo_ge (f := cGs κ b (nI e)) 16 hv
    rw [e2] at hi
    refine nI_bal (a := if κ (b + 2 + 2 * v + 1) p = nI e then 1 else 0) (c := if x = nI e then 1 else 0) ?_ ?_
    · change sumTo (cGs (cSet κ b (b + 2 + 2 * v) p x) b (nI e)) 16 + cG κ (b + 2 + 2 * v) (nI e) p = sumTo (cGs κ b (nI e)) 16 + _
      change _ + sumTo (cG κ (b + 2 + 2 * v) (nI e)) 40 = _ + sumTo (cG (cSet κ b (b + 2 + 2 * v) p x) (b + 2 + 2 * v) (nI e)) 40 at ho
      omega
    · change cG κ (b + 2 + 2 * v) (nI e) p ≤ sumTo (cGs κ b (nI e)) 16
      change sumTo (cG κ (b + 2 + 2 * v) (nI e)) 40 ≤ _ at hg2
      omega
  · rw [cSet_o (by omega) u3 u4, hC, cVl_cg (fun v' hv' => cSet_0 hb hk (isV_of hb hv'))]
theorem CI_um {κ : KH} {b v a n : Nat} (hb : isS b) (hv : v < 16) (hn : n ≤ 96) (h : CI κ b n) : ∀ j, a + j ≤ 40 → CI (iterK (fun j m => cSet m b (b + 2 + 2 * v) (a + j) (-1)) j κ) b n
  | 0, _ => h
  | j + 1, hj => CI_set hb hv (by omega) hn (CI_um hb hv hn h j (by omega)) (Or.inl rfl) (Or.inl rfl)
theorem CI_cUm {κ : KH} {b v a c n : Nat} (hb : isS b) (hv : v < 16) (hn : n ≤ 96) (h : CI κ b n) (hc : c ≤ 40) : CI (cUm κ b (b + 2 + 2 * v) a c) b n := by
  unfold cUm
  by_cases hac : a ≤ c
  · exact CI_um hb hv hn h (c - a) (by omega)
  · rw [show c - a = 0 by omega]; exact h
theorem cUm_at {κ : KH} {b k a c : Nat} (hb : isS b) (hk : isV k) (hac : a ≤ c) (q : Nat) : cUm κ b k a c (k + 1) q = if a ≤ q ∧ q < c then -1 else κ (k + 1) q := by
  unfold cUm
  rw [cUm_ext hb hk q (c - a), show a + (c - a) = c by omega]
theorem cUmi_o {κ : KH} {b k a c : Nat} (h1 : c ≠ b + 34) (h2 : c ≠ k) (h3 : c ≠ k + 1) : ∀ j, iterK (fun j m => cSet m b k (a + j) (-1)) j κ c = κ c
  | 0 => rfl
  | j + 1 => by
    show cSet (iterK (fun j m => cSet m b k (a + j) (-1)) j κ) b k (a + j) (-1) c = _
    rw [cSet_o h1 h2 h3]; exact cUmi_o h1 h2 h3 j
theorem cUm_o {κ : KH} {b k a d c : Nat} (h1 : c ≠ b + 34) (h2 : c ≠ k) (h3 : c ≠ k + 1) : cUm κ b k a d c = κ c := cUmi_o h1 h2 h3 _
theorem cUmi_f {κ : KH} {b k a i : Nat} (h : k ≠ b + 34) (hi : i ≠ 5) : ∀ j, iterK (fun j m => cSet m b k (a + j) (-1)) j κ k i = κ k i
  | 0 => rfl
  | j + 1 => by
    show cSet (iterK (fun j m => cSet m b k (a + j) (-1)) j κ) b k (a + j) (-1) k i = _
    rw [cSetf h hi]; exact cUmi_f h hi j
theorem cUm_f {κ : KH} {b k a d i : Nat} (h : k ≠ b + 34) (hi : i ≠ 5) : cUm κ b k a d k i = κ k i := cUmi_f h hi _
