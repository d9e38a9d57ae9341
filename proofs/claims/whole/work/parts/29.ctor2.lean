/-! the made world is the world of the numbers at the start -/
def κz : KH := fun k i => if k = 106 then (if i = 0 then 8 else 0) else if 1 ≤ k ∧ k < 106 ∧ 2 ≤ (k - 1) % 35 ∧ (k - 1) % 35 < 34 then (if (k - 1) % 35 % 2 = 0 then (if i = 3 ∨ i = 4 then -1 else 0) else fF (fun _ => 0) (-1) 40 i) else 0
def μz : KH := fun k i => if k = 0 ∧ i = 9 then 8 else 0
theorem κz_V {k i : Nat} (hk : isV k) : κz k i = if i = 3 ∨ i = 4 then -1 else 0 := by
  obtain ⟨h1, h2, h3, h4, h5⟩ := hk
  unfold κz
  rw [if_neg (by omega), if_pos ⟨h1, h2, h3, h4⟩, if_pos h5]
theorem κz_E {k : Nat} (hk : isV k) : κz (k + 1) = fF (fun _ => 0) (-1) 40 := by
  obtain ⟨h1, h2, h3, h4, h5⟩ := hk
  obtain ⟨q, rfl⟩ : ∃ q, k = q + 1 := ⟨k - 1, by omega⟩
  rw [Nat.add_sub_cancel] at h3 h4 h5
  have h6 : (q + 1) % 35 = q % 35 + 1 := by omega
  funext i
  unfold κz
  rw [if_neg (by omega), if_pos ⟨by omega, by omega, by rw [Nat.add_sub_cancel]; omega, by rw [Nat.add_sub_cancel]; omega⟩, if_neg (by rw [Nat.add_sub_cancel]; omega)]
theorem κz_S {b : Nat} (hb : isS b) : κz b = fun _ => 0 := by
  rcases hb with rfl | rfl | rfl <;> rfl
theorem κz_U {b : Nat} (hb : isS b) : κz (b + 34) = fun _ => 0 := by
  rcases hb with rfl | rfl | rfl <;> rfl
theorem μz_ne {k : Nat} (h : k ≠ 0) (i : Nat) : μz k i = 0 := if_neg (fun q => h q.1)
def W1 (D : DD) (n0 : Nat) : Nat → va_E := fun j => if j < 113 then eT D n0 j else if j < 126 then eM D (n0 + 113) (j - 113) else .inl (D.2.2.2.2, 1, .inr (.inl (fun _ => 0)))
theorem W1_S {D : DD} {n0 b u : Nat} (hb : isS b) (hu : u < 35) : W1 D n0 (b + u) = eS D (n0 + b) 16 (.ref (n0 + b + 34)) u := by
  unfold W1 eT
  rcases hb with rfl | rfl | rfl
  · rw [if_pos (by omega), if_neg (by omega), if_pos (by omega), Nat.add_sub_cancel_left]
  · rw [if_pos (by omega), if_neg (by omega), if_neg (by omega), if_pos (by omega), Nat.add_sub_cancel_left]
  · rw [if_pos (by omega), if_neg (by omega), if_neg (by omega), if_neg (by omega), if_pos (by omega), Nat.add_sub_cancel_left]
theorem eS_enc {D : DD} {n0 b u : Nat} {o : Int64} (hb : isS b) (hu : u < 35) (h1 : u ≠ 1) : eS D (n0 + b) 16 (.ref (n0 + b + 34)) u = enc D n0 (κz, μz, o) (b + u) := by
  by_cases h0 : u = 0
  · subst h0
    show _ = enc D n0 (κz, μz, o) b
    rw [enc_S hb, κz_S hb]
    rfl
  by_cases h34 : u = 34
  · subst h34
    rw [enc_SU hb, κz_U hb]
    rfl
  unfold eS
  rw [if_neg h0, if_neg h1, if_neg h34]
  by_cases he : u % 2 = 0
  · rw [if_pos he]
    obtain ⟨v, hv, rfl⟩ : ∃ v, v < 16 ∧ u = 2 + 2 * v := ⟨u / 2 - 1, by omega, by omega⟩
    rw [← Nat.add_assoc b 2 (2 * v), enc_V (isV_of hb hv)]
    rw [κz_V (isV_of hb hv), κz_V (isV_of hb hv), κz_V (isV_of hb hv), κz_V (isV_of hb hv), κz_V (isV_of hb hv), κz_V (isV_of hb hv)]
    rw [show n0 + (b + 2 + 2 * v + 1) = n0 + b + (2 + 2 * v + 1) by omega]
    rfl
  · rw [if_neg he]
    obtain ⟨v, hv, rfl⟩ : ∃ v, v < 16 ∧ u = 2 + 2 * v + 1 := ⟨u / 2 - 1, by omega, by omega⟩
    rw [show b + (2 + 2 * v + 1) = b + 2 + 2 * v + 1 by omega, enc_E (isV_of hb hv), κz_E (isV_of hb hv)]
    rfl
theorem W1_enc {D : DD} {n0 j : Nat} (hj : j < 127) (h2 : j ≠ 2) (h37 : j ≠ 37) (h72 : j ≠ 72) : W1 D n0 j = enc D n0 (κz, μz, 0) j := by
  by_cases h0 : j = 0
  · subst h0; rfl
  by_cases h106 : j < 106
  · obtain ⟨b, u, hb, hu, h1, rfl⟩ : ∃ b u, isS b ∧ u < 35 ∧ u ≠ 1 ∧ j = b + u := by
      by_cases a : j < 36
      · exact ⟨1, j - 1, Or.inl rfl, by omega, by omega, by omega⟩
      by_cases a : j < 71
      · exact ⟨36, j - 36, Or.inr (Or.inl rfl), by omega, by omega, by omega⟩
      · exact ⟨71, j - 71, Or.inr (Or.inr rfl), by omega, by omega, by omega⟩
    rw [W1_S hb hu, eS_enc hb hu h1]
  by_cases h113 : j < 113
  · rcases (show j = 106 ∨ j = 107 ∨ j = 108 ∨ j = 109 ∨ j = 110 ∨ j = 111 ∨ j = 112 by omega) with rfl | rfl | rfl | rfl | rfl | rfl | rfl <;> rfl
  · rcases (show j = 113 ∨ j = 114 ∨ j = 115 ∨ j = 116 ∨ j = 117 ∨ j = 118 ∨ j = 119 ∨ j = 120 ∨ j = 121 ∨ j = 122 ∨ j = 123 ∨ j = 124 ∨ j = 125 ∨ j = 126 by omega) with rfl | rfl | rfl | rfl | rfl | rfl | rfl | rfl | rfl | rfl | rfl | rfl | rfl | rfl
    · rfl
    · rfl
    · rfl
    · rfl
    · rfl
    · rfl
    · rfl
    · rfl
    · rfl
    · rfl
    · rfl
    · rfl
    · rfl
    · show (Sum.inl (D.2.2.2.2, 1, Sum.inr (Sum.inl (fun _ => 0))) : va_E) = Sum.inl (D.2.2.2.2, 1, Sum.inr (Sum.inl (vp_updL (fun _ => 0) 0 0)))
      rw [show vp_updL (fun _ => 0) 0 0 = (fun _ => (0 : Int64)) from funext fun i => by unfold vp_updL; split <;> rfl]
theorem arrV_cg {cI : ClassId} {N : Nat} {f g : Nat → Value} (h : ∀ j, j < N → f j = g j) : arrV cI N f = arrV cI N g := by
  unfold arrV
  congr 1
  congr 1
  funext j
  exact h j.val j.isLt
theorem conv {D : DD} {n0 : Nat} {H : Heap} (hP : va_P D.1 vwCl (wg n0 127 (W1 D n0)) H) : va_P D.1 vwCl (wl D n0 127 (κz, μz, 0)) H := by
  intro k q hq
  obtain ⟨hk, rfl⟩ := wl_at hq
  have h := hP k _ (wg_get hk)
  have hv : ∀ b, isS b → k = b + 1 → va_at D.1 vwCl (n0 + k, enc D n0 (κz, μz, 0) k) H := by
    intro b hb he
    subst he
    rw [W1_S hb (by omega)] at h
    rw [enc_SV hb]
    have h2 : H[n0 + (b + 1)]? = some (vp_cell D.2.2.2.1 (16, .inr (.inr (.inr (.inr (fV (n0 + b) 16)))))) := h
    show H[n0 + (b + 1)]? = some (vp_cell D.2.2.2.1 (16, .inr (.inr (.inr (.inr (fun v => some (n0 + (b + 2 + 2 * v))))))))
    rw [h2, vp_cell_q, vp_cell_q]
    refine congrArg some (arrV_cg (fun v hv => ?_))
    unfold fV
    rw [if_pos hv, show n0 + b + (2 + 2 * v) = n0 + (b + 2 + 2 * v) by omega]
  by_cases h2 : k = 2
  · exact hv 1 (Or.inl rfl) h2
  by_cases h37 : k = 37
  · exact hv 36 (Or.inr (Or.inl rfl)) h37
  by_cases h72 : k = 72
  · exact hv 71 (Or.inr (Or.inr rfl)) h72
  rw [W1_enc hk h2 h37 h72] at h
  exact h
theorem isX_fF (q : Nat) : isX (fF (fun _ => 0) (-1) 40 q) := by
  unfold fF
  split
  · exact Or.inl rfl
  · exact Or.inr ⟨0, by omega, rfl⟩
theorem RS_z {b s : Nat} (hb : isS b) : CI κz b 8 ∧ MR κz μz b s := by
  refine ⟨CI_z (fun v hv => ⟨?_, ?_, ?_, fun p hp => ?_, fun q => ?_⟩) (fun e he => by rw [κz_U hb]) (by rw [κz_S hb]), fun v hv => ⟨?_, fun h => absurd ?_ h⟩, by rw [κz_S hb, μz_ne (by omega)]⟩
  · rw [κz_V (isV_of hb hv)]; rfl
  · rw [κz_V (isV_of hb hv)]; rfl
  · rw [κz_V (isV_of hb hv)]; rfl
  · rw [κz_E (isV_of hb hv)]; exact if_pos hp
  · rw [κz_E (isV_of hb hv)]; exact isX_fF q
  · rw [κz_V (isV_of hb hv), μz_ne (by omega)]; rfl
  · rw [κz_V (isV_of hb hv)]; rfl
theorem RO_z : RO κz μz 0 :=
  ⟨8, 0, ⟨RS_z (Or.inl rfl), RS_z (Or.inr (Or.inl rfl)), RS_z (Or.inr (Or.inr rfl))⟩, ⟨rfl, rfl, by omega, by omega, ⟨0, by omega, rfl, rfl⟩, rfl, rfl, rfl⟩, ⟨fun i _ => rfl, fun i _ => rfl⟩, ⟨rfl, rfl, by omega, fun k hk => absurd hk (Nat.not_lt_zero k)⟩, fun k hk => absurd hk (Nat.not_lt_zero k),
    ⟨⟨Or.inl rfl, Or.inl rfl⟩, rfl, rfl, rfl, rfl, rfl, rfl, ⟨0, by omega, rfl⟩, 0, by omega, rfl, fun h => absurd h (by decide)⟩, fun j => by rw [μz_ne (by omega)]; exact Or.inr ⟨0, by omega, rfl⟩, fun i => ⟨by rw [μz_ne (by omega)]; exact Or.inl rfl, by rw [μz_ne (by omega)]; exact Or.inl rfl⟩⟩
