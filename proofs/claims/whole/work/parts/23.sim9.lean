/-! the pool grows and shrinks; numbers; time; a volume is no more -/
theorem CI.mono {κ : KH} {b n m : Nat} (h : CI κ b n) (hm : n ≤ m) : CI κ b m :=
  ⟨fun v hv => ⟨(h.1 v hv).1, (h.1 v hv).2.1, (h.1 v hv).2.2.1, fun p hp => ((h.1 v hv).2.2.2.1 p hp).mono hm, (h.1 v hv).2.2.2.2⟩, h.2⟩
theorem R3.mono {κ μ : KH} {n m : Nat} (h : R3 κ μ n) (hm : n ≤ m) : R3 κ μ m := ⟨⟨h.1.1.mono hm, h.1.2⟩, ⟨h.2.1.1.mono hm, h.2.1.2⟩, ⟨h.2.2.1.mono hm, h.2.2.2⟩⟩
theorem use_pos {κ : KH} {b v p : Nat} {x : Int32} (hv : v < 16) (hp : p < 40) (h : κ (b + 2 + 2 * v + 1) p = x) : 1 ≤ cUs κ b x := by
  have h1 := sumTo_ge (f := cG κ (b + 2 + 2 * v) x) 40 hp
  have h2 := sumTo_ge (f := cGs κ b x) 16 hv
  have e1 : cG κ (b + 2 + 2 * v) x p = 1 := by unfold cG; rw [if_pos h]
  have e2 : cGs κ b x v = sumTo (cG κ (b + 2 + 2 * v) x) 40 := rfl
  unfold cUs
  omega
theorem free_z {κ : KH} {n e : Nat} (h1 : CI κ 1 n) (h2 : CI κ 36 n) (h3 : CI κ 71 n) (he : e < 96) (hf : cFree κ e = true) : cUs κ 1 (nI e) = 0 ∧ cUs κ 36 (nI e) = 0 ∧ cUs κ 71 (nI e) = 0 := by
  have u1 : κ 35 e = nI (cUs κ 1 (nI e)) := h1.2.1 e he
  have u2 : κ 70 e = nI (cUs κ 36 (nI e)) := h2.2.1 e he
  have u3 : κ 105 e = nI (cUs κ 71 (nI e)) := h3.2.1 e he
  have l1 := cUs_le κ 1 (nI e)
  have l2 := cUs_le κ 36 (nI e)
  have l3 := cUs_le κ 71 (nI e)
  unfold cFree at hf
  rw [u1, u2, u3, cv_add, cv_add, decide_eq_true_eq, nI_z (by omega)] at hf
  omega
theorem CI_less {κ : KH} {b n m : Nat} (h : CI κ b n) (hu : ∀ e, m ≤ e → e < n → cUs κ b (nI e) = 0) : CI κ b m := by
  refine ⟨fun v hv => ⟨(h.1 v hv).1, (h.1 v hv).2.1, (h.1 v hv).2.2.1, fun p hp => ?_, (h.1 v hv).2.2.2.2⟩, h.2⟩
  rcases (h.1 v hv).2.2.2.1 p hp with hx | ⟨e, he, hx⟩
  · exact Or.inl hx
  · by_cases hm : e < m
    · exact Or.inr ⟨e, hm, hx⟩
    · have h1 := use_pos hv hp hx
      have h2 := hu e (by omega) he
      omega
section NUMS
variable {κ μ : KH} {n q t : Nat}
theorem RR_grow {c : Nat} (h : RR κ μ n q t) (hc : n + c ≤ 96) : RR (up κ 106 0 (nI (n + c))) (up μ 0 9 (nI (n + c))) (n + c) q t := by
  obtain ⟨h3, ⟨p1, p2, p3, p4, ⟨cu, p5, p5a, p5b⟩, p6, p7, p8⟩, hW, hQ, hV, hN, hX, hB⟩ := h
  have kc : ∀ c', c' ≠ 106 → up κ 106 0 (nI (n + c)) c' = κ c' := fun c' a => up_cell a
  have mc : ∀ c', c' ≠ 0 → up μ 0 9 (nI (n + c)) c' = μ c' := fun c' a => up_cell a
  have m0 : ∀ i, i ≠ 9 → up μ 0 9 (nI (n + c)) 0 i = μ 0 i := fun i a => up_ix a
  refine ⟨(h3.mono (by omega)).same (fun c' a b => kc c' (by omega)) (fun c' a b => mc c' (by omega)), ⟨up_self, up_self, by omega, hc, ⟨cu, by omega, by rw [up_ix (by decide)]; exact p5a, by rw [m0 12 (by decide)]; exact p5b⟩, by rw [up_ix (by decide), m0 13 (by decide)]; exact p6, by rw [up_ix (by decide), m0 14 (by decide)]; exact p7, by rw [up_ix (by decide), m0 15 (by decide)]; exact p8⟩, ⟨fun i hi => by rw [kc 107 (by decide), mc 8 (by decide)]; exact hW.1 i hi, fun i hi => by rw [kc 112 (by decide), mc 9 (by decide)]; exact hW.2 i hi⟩, hQ.cg (fun c' a b => kc c' (by omega)) (fun c' a b => mc c' (by omega)) (m0 23 (by decide)), hV.cg (kc 109 (by decide)) (kc 110 (by decide)) (fun v hv => by rw [kc _ (by have := cVk_lt hv; omega)]) (fun v hv => by rw [kc _ (by have := cVk_lt hv; omega)]), hN.cg (fun i _ _ => by rw [kc 0 (by decide)]) (fun i hi => m0 i (by omega)), fun j => by rw [mc 6 (by decide)]; exact hX j, hB.cg (mc 1 (by decide)) (mc 3 (by decide))⟩
theorem RR_shrink {c : Nat} (h : RR κ μ n q t) (hc : c < n) (hfr : ∀ i, i < c → cFree κ (n - c + i) = true) : RR (up (up κ 106 0 (nI (n - c))) 106 1 (if tn (κ 106 1) < n - c then κ 106 1 else 0)) (up (up μ 0 9 (nI (n - c))) 0 12 (if tn (μ 0 12) < n - c then μ 0 12 else 0)) (n - c) q t := by
  obtain ⟨h3, ⟨p1, p2, p3, p4, ⟨cu, p5, p5a, p5b⟩, p6, p7, p8⟩, hW, hQ, hV, hN, hX, hB⟩ := h
  rw [p5a, p5b, tn_nI (show cu < 2 ^ 31 by omega)]
  have hz : ∀ e, n - c ≤ e → e < n → cUs κ 1 (nI e) = 0 ∧ cUs κ 36 (nI e) = 0 ∧ cUs κ 71 (nI e) = 0 := fun e a b => by
    have hh := hfr (e - (n - c)) (by omega)
    rw [show n - c + (e - (n - c)) = e by omega] at hh
    exact free_z h3.1.1 h3.2.1.1 h3.2.2.1 (by omega) hh
  have h3' : R3 κ μ (n - c) := ⟨⟨CI_less h3.1.1 (fun e a b => (hz e a b).1), h3.1.2⟩, ⟨CI_less h3.2.1.1 (fun e a b => (hz e a b).2.1), h3.2.1.2⟩, ⟨CI_less h3.2.2.1 (fun e a b => (hz e a b).2.2), h3.2.2.2⟩⟩
  have kc : ∀ c' y, c' ≠ 106 → up (up κ 106 0 (nI (n - c))) 106 1 y c' = κ c' := fun c' y a => by rw [up_cell a, up_cell a]
  have mc : ∀ c' y, c' ≠ 0 → up (up μ 0 9 (nI (n - c))) 0 12 y c' = μ c' := fun c' y a => by rw [up_cell a, up_cell a]
  have m0 : ∀ i y, i ≠ 9 → i ≠ 12 → up (up μ 0 9 (nI (n - c))) 0 12 y 0 i = μ 0 i := fun i y a b => by rw [up_ix b, up_ix a]
  have k6 : ∀ i y, i ≠ 0 → i ≠ 1 → up (up κ 106 0 (nI (n - c))) 106 1 y 106 i = κ 106 i := fun i y a b => by rw [up_ix b, up_ix a]
  refine ⟨h3'.same (fun c' a b => kc c' _ (by omega)) (fun c' a b => mc c' _ (by omega)), ⟨by rw [up_ix (by decide), up_self], by rw [up_ix (by decide), up_self], by omega, by omega, ⟨if cu < n - c then cu else 0, by split <;> omega, ?_, ?_⟩, by rw [k6 2 _ (by decide) (by decide), m0 13 _ (by decide) (by decide)]; exact p6, by rw [k6 3 _ (by decide) (by decide), m0 14 _ (by decide) (by decide)]; exact p7, by rw [k6 4 _ (by decide) (by decide), m0 15 _ (by decide) (by decide)]; exact p8⟩, ⟨fun i hi => by rw [kc 107 _ (by decide), mc 8 _ (by decide)]; exact hW.1 i hi, fun i hi => by rw [kc 112 _ (by decide), mc 9 _ (by decide)]; exact hW.2 i hi⟩, hQ.cg (fun c' a b => kc c' _ (by omega)) (fun c' a b => mc c' _ (by omega)) (m0 23 _ (by decide) (by decide)), hV.cg (kc 109 _ (by decide)) (kc 110 _ (by decide)) (fun v hv => by rw [kc _ _ (by have := cVk_lt hv; omega)]) (fun v hv => by rw [kc _ _ (by have := cVk_lt hv; omega)]), hN.cg (fun i _ _ => by rw [kc 0 _ (by decide)]) (fun i hi => m0 i _ (by omega) (by omega)), fun j => by rw [mc 6 _ (by decide)]; exact hX j, hB.cg (mc 1 _ (by decide)) (mc 3 _ (by decide))⟩
  · rw [up_self]; split <;> rfl
  · rw [up_self]; split <;> rfl
theorem RR_back {w : Nat} {x : Int32} (h : RR κ μ n q t) : RR (up κ 112 w x) (up μ 9 w x) n q t := by
  obtain ⟨h3, hP, hW, hQ, hV, hN, hX, hB⟩ := h
  have kc : ∀ c', c' ≠ 112 → up κ 112 w x c' = κ c' := fun c' a => up_cell a
  have mc : ∀ c', c' ≠ 9 → up μ 9 w x c' = μ c' := fun c' a => up_cell a
  refine ⟨h3.same (fun c' a b => kc c' (by omega)) (fun c' a b => mc c' (by omega)), ?_, ⟨fun i hi => by rw [kc 107 (by decide), mc 8 (by decide)]; exact hW.1 i hi, fun i hi => ?_⟩, hQ.cg (fun c' a b => kc c' (by omega)) (fun c' a b => mc c' (by omega)) (by rw [mc 0 (by decide)]), hV.cg (kc 109 (by decide)) (kc 110 (by decide)) (fun v hv => by rw [kc _ (by have := cVk_lt hv; omega)]) (fun v hv => by rw [kc _ (by have := cVk_lt hv; omega)]), hN.cg (fun i _ _ => by rw [kc 0 (by decide)]) (fun i hi => by rw [mc 0 (by decide)]), fun j => by rw [mc 6 (by decide)]; exact hX j, hB.cg (mc 1 (by decide)) (mc 3 (by decide))⟩
  · unfold RP
    rw [kc 106 (by decide), mc 0 (by decide)]; exact hP
  · by_cases hiw : i = w
    · subst hiw; rw [up_self, up_self]
    · rw [up_ix hiw, up_ix hiw]; exact hW.2 i hi
theorem RR_mark {x : Int32} (h : RR κ μ n q t) : RR (up κ 1 0 x) (up μ 7 0 x) n q t := by
  have kc : ∀ c', c' ≠ 1 → up κ 1 0 x c' = κ c' := fun c' a => up_cell a
  have mc : ∀ c', c' ≠ 7 → up μ 7 0 x c' = μ c' := fun c' a => up_cell a
  have hg : ∀ g, eqG μ (up μ 7 0 x) g g := fun g => eqG.rf (fun c a b => mc c (by omega))
  have hC : CI (up κ 1 0 x) 1 n := by
    refine ⟨fun v hv => (h.1.1.1.1 v hv).cg (eqV.rf (kc _ (by omega)) (kc _ (by omega))) (fun p => by rw [kc _ (by omega)]; exact (h.1.1.1.1 v hv).2.2.2.2.2 p), fun e he => ?_, ?_⟩
    · rw [kc _ (by omega), h.1.1.1.2.1 e he]
      exact congrArg nI (cUs_cg _ (fun v' hv' p hp => by rw [kc _ (by omega)])).symm
    · rw [up_ix (by decide), h.1.1.1.2.2]
      exact congrArg nI (cVl_cg (fun v' hv' => by rw [kc _ (by omega)])).symm
  refine RR_st h ⟨⟨hC, fun v hv => (h.1.1.2.1 v hv).cg (eqV.rf (kc _ (by omega)) (kc _ (by omega))) (hg _), by rw [up_self, up_self]⟩, ⟨h.1.2.1.1.same (fun c a b => kc c (by omega)), h.1.2.1.2.same (fun c a b => kc c (by omega)) (fun v _ => hg _) (up_ix (by decide))⟩, ⟨h.1.2.2.1.same (fun c a b => kc c (by omega)), h.1.2.2.2.same (fun c a b => kc c (by omega)) (fun v _ => hg _) (up_ix (by decide))⟩⟩ (fun c hc => kc c (by omega)) (fun c hc => mc c (by omega)) (h.2.2.2.2.1.cg (kc 109 (by decide)) (kc 110 (by decide)) (fun v hv => by rw [kc _ (by have := cVk_lt hv; omega)]) (fun v hv => by rw [kc _ (by have := cVk_lt hv; omega)])) (fun j => by rw [mc 6 (by decide)]; exact h.2.2.2.2.2.2.1 j) (h.2.2.2.2.2.2.2.cg (mc 1 (by decide)) (mc 3 (by decide)))
theorem RR_alarm {x : Int32} (h : RR κ μ n q t) : RR (up κ 106 2 x) (up μ 0 13 x) n q t := by
  obtain ⟨h3, ⟨p1, p2, p3, p4, ⟨cu, p5, p5a, p5b⟩, p6, p7, p8⟩, hW, hQ, hV, hN, hX, hB⟩ := h
  have kc : ∀ c', c' ≠ 106 → up κ 106 2 x c' = κ c' := fun c' a => up_cell a
  have mc : ∀ c', c' ≠ 0 → up μ 0 13 x c' = μ c' := fun c' a => up_cell a
  have m0 : ∀ i, i ≠ 13 → up μ 0 13 x 0 i = μ 0 i := fun i a => up_ix a
  exact ⟨h3.same (fun c' a b => kc c' (by omega)) (fun c' a b => mc c' (by omega)), ⟨by rw [up_ix (by decide)]; exact p1, by rw [m0 9 (by decide)]; exact p2, p3, p4, ⟨cu, p5, by rw [up_ix (by decide)]; exact p5a, by rw [m0 12 (by decide)]; exact p5b⟩, by rw [up_self, up_self], by rw [up_ix (by decide), m0 14 (by decide)]; exact p7, by rw [up_ix (by decide), m0 15 (by decide)]; exact p8⟩, ⟨fun i hi => by rw [kc 107 (by decide), mc 8 (by decide)]; exact hW.1 i hi, fun i hi => by rw [kc 112 (by decide), mc 9 (by decide)]; exact hW.2 i hi⟩, hQ.cg (fun c' a b => kc c' (by omega)) (fun c' a b => mc c' (by omega)) (m0 23 (by decide)), hV.cg (kc 109 (by decide)) (kc 110 (by decide)) (fun v hv => by rw [kc _ (by have := cVk_lt hv; omega)]) (fun v hv => by rw [kc _ (by have := cVk_lt hv; omega)]), hN.cg (fun i _ _ => by rw [kc 0 (by decide)]) (fun i hi => m0 i (by omega)), fun j => by rw [mc 6 (by decide)]; exact hX j, hB.cg (mc 1 (by decide)) (mc 3 (by decide))⟩
theorem RR_patience {x : Int32} (h : RR κ μ n q t) (h1 : ¬ x < 0) (h2 : x ≤ 1000) : RR (up κ 0 8 x) (up μ 0 17 x) n q t := by
  obtain ⟨P, hP, rfl⟩ := nI_of2 (M := 1000) (n := 1000) (by decide +kernel) h1 h2
  refine RR_0 h (fun c hc => up_cell hc) (fun c hc => up_cell hc) (fun i hi => up_ix (by omega)) ?_
  obtain ⟨a1, a2, a3, a4, a5, a6, a7, a8, T, b1, b2, b3⟩ := h.2.2.2.2.2.1
  unfold RN
  rw [up_ix (show (6 : Nat) ≠ 8 by decide), up_ix (show (7 : Nat) ≠ 8 by decide), up_self, up_ix (show (9 : Nat) ≠ 8 by decide), up_ix (show (10 : Nat) ≠ 8 by decide), up_ix (show (11 : Nat) ≠ 8 by decide), up_ix (show (12 : Nat) ≠ 8 by decide), up_self, up_ix (show (8 : Nat) ≠ 17 by decide), up_ix (show (16 : Nat) ≠ 17 by decide), up_ix (show (18 : Nat) ≠ 17 by decide), up_ix (show (19 : Nat) ≠ 17 by decide), up_ix (show (20 : Nat) ≠ 17 by decide), up_ix (show (21 : Nat) ≠ 17 by decide), up_ix (show (22 : Nat) ≠ 17 by decide)]
  exact ⟨a1, a2, a3, rfl, a5, a6, a7, ⟨P, hP, rfl⟩, T, b1, b2, b3⟩
/-- time goes by: those that wait fail, or don't -/
theorem sim_tick {s : Int32} (h : RR κ μ n q t) (ht : t ≤ 1000) (h1 : ¬ s < 0) (h2 : s ≤ 10000) :
    ((κ 0 7 = 1 → κ 0 10 + s < κ 0 9) ∧ RO (up κ 0 10 (κ 0 10 + s)) (mTick μ s).1 (t + 1) ∧ (mTick μ s).2 = 0) ∨
    (κ 0 7 = 1 ∧ κ 0 9 ≤ κ 0 10 + s ∧ RO (up (up (up (up κ 0 10 (κ 0 10 + s)) 108 0 0) 0 11 (κ 0 11 + κ 108 0)) 0 7 2) (mTick μ s).1 (t + 1) ∧ (mTick μ s).2 = κ 108 0) := by
  obtain ⟨S, hS, rfl⟩ := nI_of2 (M := 10000) (n := 10000) (by decide +kernel) h1 h2
  obtain ⟨a1, a2, a3, a4, a5, a6, a7, a8, T, b1, b2, b3⟩ := h.2.2.2.2.2.1
  have e10 : κ 0 10 + nI S = nI (T + S) := by rw [b2, cv_add]
  have m20 : μ 0 20 = nI T := a5.symm.trans b2
  by_cases c1 : κ 0 7 = 1
  · obtain ⟨L, W, w1, w2, w3, w4, w5⟩ := b3 c1
    have c1m : μ 0 16 = 1 := a3.symm.trans c1
    have e19 : μ 0 19 + nI S = nI (W + S) := by rw [w4, cv_add]
    by_cases c2 : W + S < L
    · refine Or.inl ⟨fun _ => by rw [e10, w5]; exact nI_lt (by omega) (by omega), ?_, ?_⟩
      · have hm : (mTick μ (nI S)).1 = up (up μ 0 20 (μ 0 20 + nI S)) 0 19 (μ 0 19 + nI S) := by
          unfold mTick
          rw [if_pos c1m, if_pos (by rw [e19, w3]; exact nI_lt c2 (by omega))]
        rw [hm]
        refine ⟨n, q, RR_0 h (fun c hc => up_cell hc) (fun c hc => by rw [up_cell hc, up_cell hc]) (fun i hi => by rw [up_ix (by omega), up_ix (by omega)]) ⟨a1, a2, a3, a4, ?_, a6, a7, a8, T + S, by omega, ?_, fun _ => ⟨L, W + S, c2, w2, w3, ?_, ?_⟩⟩⟩
        · show κ 0 10 + nI S = μ 0 20 + nI S
          rw [a5]
        · show κ 0 10 + nI S = _
          exact e10
        · show μ 0 19 + nI S = _
          exact e19
        · show κ 0 9 = _
          rw [w5]; congr 1; omega
      · unfold mTick
        rw [if_pos c1m, if_pos (by rw [e19, w3]; exact nI_lt c2 (by omega))]
    · refine Or.inr ⟨c1, by rw [e10, w5]; exact nI_le (by omega) (by omega), ?_, ?_⟩
      · have hm : (mTick μ (nI S)).1 = up (up (up (up (up μ 0 20 (μ 0 20 + nI S)) 0 19 (μ 0 19 + nI S)) 0 21 (μ 0 21 + μ 0 23)) 0 23 0) 0 16 2 := by
          unfold mTick
          rw [if_pos c1m, if_neg (by rw [e19, w3]; exact nI_nlt (by omega) (by omega))]
        rw [hm]
        obtain ⟨h3, hP, hW, ⟨q1, q2, q3, q4⟩, hV, hN, hX, hB⟩ := h
        have kc : ∀ c, c ≠ 0 → c ≠ 108 → up (up (up (up κ 0 10 (κ 0 10 + nI S)) 108 0 0) 0 11 (κ 0 11 + κ 108 0)) 0 7 2 c = κ c := fun c x1 x2 => by rw [up_cell x1, up_cell x1, up_cell x2, up_cell x1]
        have mc : ∀ c, c ≠ 0 → up (up (up (up (up μ 0 20 (μ 0 20 + nI S)) 0 19 (μ 0 19 + nI S)) 0 21 (μ 0 21 + μ 0 23)) 0 23 0) 0 16 2 c = μ c := fun c x1 => by rw [up_cell x1, up_cell x1, up_cell x1, up_cell x1, up_cell x1]
        have m0 : ∀ i, i < 16 ∨ i = 17 ∨ i = 18 ∨ i = 22 → up (up (up (up (up μ 0 20 (μ 0 20 + nI S)) 0 19 (μ 0 19 + nI S)) 0 21 (μ 0 21 + μ 0 23)) 0 23 0) 0 16 2 0 i = μ 0 i := fun i hi => by rw [up_ix (by omega), up_ix (by omega), up_ix (by omega), up_ix (by omega), up_ix (by omega)]
        refine ⟨n, 0, h3.same (fun c x1 x2 => kc c (by omega) (by omega)) (fun c x1 x2 => mc c (by omega)), ?_, ⟨fun i hi => by rw [kc 107 (by decide) (by decide), mc 8 (by decide)]; exact hW.1 i hi, fun i hi => by rw [kc 112 (by decide) (by decide), mc 9 (by decide)]; exact hW.2 i hi⟩, ⟨rfl, rfl, by omega, fun k hk => absurd hk (by omega)⟩, fun k hk => absurd hk (by omega), ⟨⟨a1.1, Or.inr (Or.inr rfl)⟩, a2, rfl, a4, ?_, ?_, a7, a8, T + S, by omega, e10, fun z => absurd (show (2 : Int32) = 1 from z) (by decide +kernel)⟩, fun j => by rw [mc 6 (by decide)]; exact hX j, hB.cg (mc 1 (by decide)) (mc 3 (by decide))⟩
        · unfold RP
          rw [kc 106 (by decide) (by decide), m0 9 (by omega), m0 12 (by omega), m0 13 (by omega), m0 14 (by omega), m0 15 (by omega)]
          exact hP
        · show κ 0 10 + nI S = μ 0 20 + nI S
          rw [a5]
        · show κ 0 11 + κ 108 0 = μ 0 21 + μ 0 23
          rw [a6, q1, q2]
      · unfold mTick
        rw [if_pos c1m, if_neg (by rw [e19, w3]; exact nI_nlt (by omega) (by omega))]
        show μ 0 23 = κ 108 0
        rw [h.2.2.2.1.1, h.2.2.2.1.2.1]
  · have c1m : ¬ μ 0 16 = 1 := by rw [← a3]; exact c1
    refine Or.inl ⟨fun z => absurd z c1, ?_, ?_⟩
    · have hm : (mTick μ (nI S)).1 = up (up μ 0 20 (μ 0 20 + nI S)) 0 19 (μ 0 19 + 0) := by unfold mTick; rw [if_neg c1m]
      rw [hm]
      refine ⟨n, q, RR_0 h (fun c hc => up_cell hc) (fun c hc => by rw [up_cell hc, up_cell hc]) (fun i hi => by rw [up_ix (by omega), up_ix (by omega)]) ⟨a1, a2, a3, a4, ?_, a6, a7, a8, T + S, by omega, e10, fun z => absurd z c1⟩⟩
      show κ 0 10 + nI S = μ 0 20 + nI S
      rw [a5]
    · unfold mTick; rw [if_neg c1m]
end NUMS
/-! those that wait for a volume that is dropped -/
theorem dq_eq {κ μ : KH} {n j : Nat} : ∀ (f i : Nat) (x : KH), i + f = n →
    (∀ c, c ≠ 0 → c ≠ 10 → c ≠ 11 → c ≠ 12 → x c = μ c) → (∀ a, a ≠ 21 → a ≠ 23 → x 0 a = μ 0 a) → x 0 21 = μ 0 21 + nI (i - (cRm κ (nI j) i).2) → x 0 23 = nI ((cRm κ (nI j) i).2 + f) →
    (∀ m, m < (cRm κ (nI j) i).2 → x 10 m = (cRm κ (nI j) i).1 109 m ∧ x 11 m = (cRm κ (nI j) i).1 110 m ∧ x 12 m = (cRm κ (nI j) i).1 111 m) →
    (∀ m, m < f → x 10 ((cRm κ (nI j) i).2 + m) = κ 109 (i + m) ∧ x 11 ((cRm κ (nI j) i).2 + m) = κ 110 (i + m) ∧ x 12 ((cRm κ (nI j) i).2 + m) = κ 111 (i + m)) →
    (∀ m, i ≤ m → (cRm κ (nI j) i).1 109 m = κ 109 m ∧ (cRm κ (nI j) i).1 110 m = κ 110 m ∧ (cRm κ (nI j) i).1 111 m = κ 111 m) →
    ∃ y, y = mDq j f (cRm κ (nI j) i).2 x ∧ (∀ c, c ≠ 0 → c ≠ 10 → c ≠ 11 → c ≠ 12 → y c = μ c) ∧ (∀ a, a ≠ 21 → a ≠ 23 → y 0 a = μ 0 a) ∧ y 0 21 = μ 0 21 + nI (n - (cRm κ (nI j) n).2) ∧ y 0 23 = nI (cRm κ (nI j) n).2 ∧ (∀ m, m < (cRm κ (nI j) n).2 → y 10 m = (cRm κ (nI j) n).1 109 m ∧ y 11 m = (cRm κ (nI j) n).1 110 m ∧ y 12 m = (cRm κ (nI j) n).1 111 m)
  | 0, i, x, hif, hc, ha, h21, h23, hm, hf, hk => by
    obtain rfl : i = n := by omega
    exact ⟨x, rfl, hc, ha, h21, h23, hm⟩
  | f + 1, i, x, hif, hc, ha, h21, h23, hm, hf, hk => by
    have hle := cRm_le κ (nI j) i
    obtain ⟨k1, k2, k3⟩ := hk i (Nat.le_refl i)
    obtain ⟨f1, f2, f3⟩ := hf 0 (by omega)
    rw [Nat.add_zero, Nat.add_zero] at f1 f2 f3
    rw [mDq, f1]
    by_cases hj : κ 109 i = nI j
    · have hr : cRm κ (nI j) (i + 1) = cRm κ (nI j) i := by rw [cRm, if_pos (by rw [k1]; exact hj)]
      rw [if_pos hj]
      have hu : ∀ c, c = 10 ∨ c = 11 ∨ c = 12 → ∀ m, mUnq (up x 0 21 (x 0 21 + 1)) ((cRm κ (nI j) i).2 + f) (cRm κ (nI j) i).2 c m = if (cRm κ (nI j) i).2 ≤ m ∧ m < (cRm κ (nI j) i).2 + f then x c (m + 1) else x c m := fun c hcc m => by
        rw [mUnq_q _ _ _ c hcc m (by omega), up_cell (by omega)]
      have hz := dq_eq (κ := κ) (μ := μ) (n := n) (j := j) f (i + 1) (mUnq (up x 0 21 (x 0 21 + 1)) ((cRm κ (nI j) i).2 + f) (cRm κ (nI j) i).2) (by omega)
        (fun c a b d e => by rw [mUnq_o _ _ _ c a b d e, up_cell a]; exact hc c a b d e)
        (fun a a1 a2 => by rw [mUnq_0, if_neg a2, up_ix a1]; exact ha a a1 a2)
        (by rw [mUnq_0, if_neg (by decide), up_self, h21, hr, show (1 : Int32) = nI 1 from rfl, Int32.add_assoc, cv_add]; congr 2; omega)
        (by rw [mUnq_0, if_pos rfl, hr])
        (fun m hmm => by
          rw [hr] at hmm ⊢
          rw [hu 10 (by omega), hu 11 (by omega), hu 12 (by omega), if_neg (by omega), if_neg (by omega), if_neg (by omega)]; exact hm m hmm)
        (fun m hmm => by
          rw [hr, hu 10 (by omega), hu 11 (by omega), hu 12 (by omega), if_pos (by omega), if_pos (by omega), if_pos (by omega)]
          have := hf (m + 1) (by omega)
          rw [show (cRm κ (nI j) i).2 + m + 1 = (cRm κ (nI j) i).2 + (m + 1) by omega, show i + 1 + m = i + (m + 1) by omega]
          exact this)
        (fun m hmm => by rw [hr]; exact hk m (by omega))
      rw [hr] at hz
      exact hz
    · have hne : ¬ (cRm κ (nI j) i).1 109 i = nI j := by rw [k1]; exact hj
      have hr : cRm κ (nI j) (i + 1) = (cPut (cRm κ (nI j) i).1 (cRm κ (nI j) i).2 ((cRm κ (nI j) i).1 109 i) ((cRm κ (nI j) i).1 110 i) ((cRm κ (nI j) i).1 111 i), (cRm κ (nI j) i).2 + 1) := by rw [cRm, if_neg hne]
      have hr2 : (cRm κ (nI j) (i + 1)).2 = (cRm κ (nI j) i).2 + 1 := by rw [hr]
      have hr1 : (cRm κ (nI j) (i + 1)).1 = cPut (cRm κ (nI j) i).1 (cRm κ (nI j) i).2 (κ 109 i) (κ 110 i) (κ 111 i) := by rw [hr, k1, k2, k3]
      have p9 : ∀ m, cPut (cRm κ (nI j) i).1 (cRm κ (nI j) i).2 (κ 109 i) (κ 110 i) (κ 111 i) 109 m = if m = (cRm κ (nI j) i).2 then κ 109 i else (cRm κ (nI j) i).1 109 m := fun m => by
        by_cases hmm : m = (cRm κ (nI j) i).2
        · rw [if_pos hmm, hmm]; simp [cPut, up]
        · rw [if_neg hmm]; simp [cPut, up, hmm]
      have p10 : ∀ m, cPut (cRm κ (nI j) i).1 (cRm κ (nI j) i).2 (κ 109 i) (κ 110 i) (κ 111 i) 110 m = if m = (cRm κ (nI j) i).2 then κ 110 i else (cRm κ (nI j) i).1 110 m := fun m => by
        by_cases hmm : m = (cRm κ (nI j) i).2
        · rw [if_pos hmm, hmm]; simp [cPut, up]
        · rw [if_neg hmm]; simp [cPut, up, hmm]
      have p11 : ∀ m, cPut (cRm κ (nI j) i).1 (cRm κ (nI j) i).2 (κ 109 i) (κ 110 i) (κ 111 i) 111 m = if m = (cRm κ (nI j) i).2 then κ 111 i else (cRm κ (nI j) i).1 111 m := fun m => by
        by_cases hmm : m = (cRm κ (nI j) i).2
        · rw [if_pos hmm, hmm]; simp [cPut, up]
        · rw [if_neg hmm]; simp [cPut, up, hmm]
      rw [if_neg hj]
      have hz := dq_eq (κ := κ) (μ := μ) (n := n) (j := j) f (i + 1) x (by omega) hc ha
        (by rw [h21, hr2]; congr 2; omega)
        (by rw [h23, hr2]; congr 1; omega)
        (fun m hmm => by
          rw [hr2] at hmm
          rw [hr1, p9, p10, p11]
          by_cases hmc : m = (cRm κ (nI j) i).2
          · rw [if_pos hmc, if_pos hmc, if_pos hmc, hmc]; exact ⟨f1, f2, f3⟩
          · rw [if_neg hmc, if_neg hmc, if_neg hmc]; exact hm m (by omega))
        (fun m hmm => by
          rw [hr2, show (cRm κ (nI j) i).2 + 1 + m = (cRm κ (nI j) i).2 + (m + 1) by omega, show i + 1 + m = i + (m + 1) by omega]
          exact hf (m + 1) (by omega))
        (fun m hmm => by rw [hr1, p9, p10, p11, if_neg (by omega), if_neg (by omega), if_neg (by omega)]; exact hk m (by omega))
      rw [hr2] at hz
      exact hz
