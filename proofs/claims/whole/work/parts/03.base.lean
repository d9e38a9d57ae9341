/-! words of the tables that a callee may be given -/
def tb : List Cond := lw_tbl.filter goodWord
theorem tbm {w : Cond} (i : Nat) (h : lw_tbl[i]? = some w) (g : goodWord w = true) : w ∈ tb := List.mem_filter.mpr ⟨List.mem_of_getElem? h, g⟩
theorem tb_in {w : Cond} (h : w ∈ tb) : w ∈ lw_tbl := (List.mem_filter.mp h).1
theorem tb_good {w : Cond} (h : w ∈ tb) : (w.onTables && w.keeps) = true ∨ ∃ ty, w = .arrayClass ty := good_of_word (List.mem_filter.mp h).2
theorem tb_goodIn {ws : List Cond} (h : ∀ w ∈ ws, w ∈ tb) : GoodIn tb ws := fun w hw => ⟨h w hw, tb_good (h w hw)⟩
/-! the world by places: cell k lies at n0 + k; 0 ThinExtents, 1 .. 35, 36 .. 70, 71 .. 105 the states, 106 the pool, 107 its words, 108 the queue, 109 .. 111 its rows, 112 the backing, 113 the model, 114 .. 125 its rows, 126 the law's out -/
abbrev KH : Type := Nat → Nat → Int32
abbrev ST : Type := KH × KH × Int64
abbrev DD : Type := va_G × (ClassId × ClassId × ClassId × ClassId)
def up (κ : KH) (k i : Nat) (x : Int32) : KH := fun k' i' => if k' = k ∧ i' = i then x else κ k' i'
theorem up_cell {κ : KH} {k i j : Nat} {x : Int32} (h : j ≠ k) : up κ k i x j = κ j := funext fun i' => if_neg (fun q => h q.1)
theorem up_self {κ : KH} {k i : Nat} {x : Int32} : up κ k i x k i = x := if_pos ⟨rfl, rfl⟩
theorem up_ix {κ : KH} {k i j i' : Nat} {x : Int32} (h : i' ≠ i) : up κ k i x j i' = κ j i' := if_neg (fun q => h q.2)
theorem up_upd {κ : KH} {k i : Nat} {x : Int32} : up κ k i x k = upd (κ k) i x := funext fun i' => by
  by_cases h : i' = i
  · subst h; exact up_self.trans (if_pos rfl).symm
  · exact (up_ix h).trans (if_neg h).symm
def mlen (j : Nat) : Nat := if j = 119 then 1920 else if j = 120 then 3 else if j = 121 then 384 else if j = 122 then 160 else if j < 119 then 48 else 8
def encR (D : DD) (n0 j : Nat) (r mr : Nat → Int32) (o : Int64) : va_E :=
  if j = 0 then .inr (4, [.ref (n0 + 1), .ref (n0 + 36), .ref (n0 + 71), .ref (n0 + 106), .ref (n0 + 108), .ref (n0 + 112), .int (r 6), .int (r 7), .int (r 8), .int (r 9), .int (r 10), .int (r 11), .int (r 12)])
  else if j < 106 then
    (if (j - 1) % 35 = 0 then .inr (2, [.int (r 0), .int (r 1), .ref (n0 + (j + 1)), .ref (n0 + (j + 34))])
    else if (j - 1) % 35 = 1 then .inl (D.2.2.2.1, 16, .inr (.inr (.inr (.inr (fun v => some (n0 + (j + 1 + 2 * v)))))))
    else if (j - 1) % 35 = 34 then .inl (D.2.1, 96, .inl r)
    else if (j - 1) % 35 % 2 = 0 then .inr (3, [.int (r 0), .int (r 1), .int (r 2), .int (r 3), .int (r 4), .int (r 5), .ref (n0 + (j + 1))])
    else .inl (D.2.1, 40, .inl r))
  else if j = 106 then .inr (0, [.int (r 0), .int (r 1), .int (r 2), .int (r 3), .int (r 4), .ref (n0 + 1), .ref (n0 + 36), .ref (n0 + 71), .ref (n0 + 107)])
  else if j = 107 then .inl (D.2.1, 384, .inl r)
  else if j = 108 then .inr (1, [.int (r 0), .ref (n0 + 109), .ref (n0 + 110), .ref (n0 + 111)])
  else if j < 112 then .inl (D.2.1, 8, .inl r)
  else if j = 112 then .inl (D.2.1, 160, .inl r)
  else if j = 113 then .inr (5, [.int (mr 0), .ref (n0 + 114), .ref (n0 + 115), .ref (n0 + 116), .ref (n0 + 117), .ref (n0 + 118), .ref (n0 + 119), .ref (n0 + 120), .int (mr 8), .int (mr 9), .ref (n0 + 121), .ref (n0 + 122), .int (mr 12), .int (mr 13), .int (mr 14), .int (mr 15), .int (mr 16), .int (mr 17), .int (mr 18), .int (mr 19), .int (mr 20), .int (mr 21), .int (mr 22), .int (mr 23), .ref (n0 + 123), .ref (n0 + 124), .ref (n0 + 125)])
  else if j = 126 then .inl (D.2.2.2.2, 1, .inr (.inl (vp_updL (fun _ => 0) 0 o)))
  else if j = 114 ∨ j = 116 then .inl (D.2.2.1, 48, .inl mr)
  else .inl (D.2.1, mlen j, .inl mr)
def enc (D : DD) (n0 : Nat) (σ : ST) (j : Nat) : va_E := encR D n0 j (σ.1 j) (σ.2.1 (j - 113)) σ.2.2
def wl (D : DD) (n0 N : Nat) (σ : ST) : va_W := (List.range N).map (fun k => (n0 + k, enc D n0 σ k))
def tyl (D : DD) : List (ClassId × FieldType) := [(D.2.1, .int), (D.2.2.1, .boolean), (D.2.2.2.1, .object "ThinExtents$Volume"), (D.2.2.2.2, .long)]
theorem wl_len {D : DD} {n0 N : Nat} {σ : ST} : (wl D n0 N σ).length = N := by simp [wl]
theorem wl_get {D : DD} {n0 N k : Nat} {σ : ST} (h : k < N) : (wl D n0 N σ)[k]? = some (n0 + k, enc D n0 σ k) := by
  simp [wl, List.getElem?_map, List.getElem?_range h]
theorem wl_at {D : DD} {n0 N k : Nat} {σ : ST} {q : Nat × va_E} (h : (wl D n0 N σ)[k]? = some q) : k < N ∧ q = (n0 + k, enc D n0 σ k) := by
  have hk : k < N := by have := (List.getElem?_eq_some_iff.mp h).1; rwa [wl_len] at this
  exact ⟨hk, Option.some.inj (h.symm.trans (wl_get hk))⟩
theorem wl_D {D : DD} {n0 N : Nat} {σ : ST} : va_D (fun q => n0 ≤ q) (wl D n0 N σ) := by
  refine ⟨fun i j p q hp hq h => ?_, fun k q hq => ?_⟩
  · obtain ⟨-, rfl⟩ := wl_at hp; obtain ⟨-, rfl⟩ := wl_at hq; dsimp only at h; omega
  · obtain ⟨-, rfl⟩ := wl_at hq; exact Nat.le_add_right _ _
theorem wl_set {D : DD} {n0 N k : Nat} {σ σ' : ST} {x : va_E} (he : enc D n0 σ' k = x) (hne : ∀ j, j ≠ k → enc D n0 σ' j = enc D n0 σ j) : (wl D n0 N σ).set k (n0 + k, x) = wl D n0 N σ' := by
  apply List.ext_getElem?
  intro i
  rw [List.getElem?_set, wl_len]
  by_cases h : k = i
  · subst h
    rw [if_pos rfl]
    by_cases hk : k < N
    · rw [if_pos hk, wl_get hk, he]
    · rw [if_neg hk]; exact (List.getElem?_eq_none (by rw [wl_len]; omega)).symm
  · rw [if_neg h]
    by_cases hi : i < N
    · rw [wl_get hi, wl_get hi, hne i (fun q => h q.symm)]
    · rw [List.getElem?_eq_none (by rw [wl_len]; omega), List.getElem?_eq_none (by rw [wl_len]; omega)]
theorem wl_congr {D : DD} {n0 N : Nat} {σ σ' : ST} (h : ∀ j, j < N → enc D n0 σ' j = enc D n0 σ j) : wl D n0 N σ = wl D n0 N σ' := by
  apply List.ext_getElem?
  intro i
  by_cases hi : i < N
  · rw [wl_get hi, wl_get hi, h i hi]
  · rw [List.getElem?_eq_none (by rw [wl_len]; omega), List.getElem?_eq_none (by rw [wl_len]; omega)]
theorem wl_push {D : DD} {n0 N : Nat} {σ : ST} : wl D n0 (N + 1) σ = wl D n0 N σ ++ [(n0 + N, enc D n0 σ N)] := by
  simp [wl, List.range_succ]
theorem enc_up {D : DD} {n0 k i j : Nat} {κ μ : KH} {o : Int64} {x : Int32} (h : j ≠ k) : enc D n0 (up κ k i x, μ, o) j = enc D n0 (κ, μ, o) j := by
  show encR D n0 j (up κ k i x j) _ _ = encR D n0 j (κ j) _ _
  rw [up_cell h]
theorem encR_cls {D : DD} {n0 j : Nat} {r mr mr' : Nat → Int32} {o o' : Int64} (h : j < 113) : encR D n0 j r mr o = encR D n0 j r mr' o' := by
  unfold encR
  by_cases h0 : j = 0
  · rw [if_pos h0, if_pos h0]
  rw [if_neg h0, if_neg h0]
  by_cases h1 : j < 106
  · rw [if_pos h1, if_pos h1]
  rw [if_neg h1, if_neg h1]
  by_cases h2 : j = 106
  · rw [if_pos h2, if_pos h2]
  rw [if_neg h2, if_neg h2]
  by_cases h3 : j = 107
  · rw [if_pos h3, if_pos h3]
  rw [if_neg h3, if_neg h3]
  by_cases h4 : j = 108
  · rw [if_pos h4, if_pos h4]
  rw [if_neg h4, if_neg h4]
  by_cases h5 : j < 112
  · rw [if_pos h5, if_pos h5]
  rw [if_neg h5, if_neg h5, if_pos (by omega), if_pos (by omega)]
theorem enc_um {D : DD} {n0 k i j : Nat} {κ μ : KH} {o : Int64} {x : Int32} (h : j ≠ k + 113) : enc D n0 (κ, up μ k i x, o) j = enc D n0 (κ, μ, o) j := by
  unfold enc
  by_cases hj : j < 113
  · exact encR_cls hj
  · show encR D n0 j (κ j) (up μ k i x (j - 113)) o = _
    rw [up_cell (by omega)]
theorem enc_uo {D : DD} {n0 j : Nat} {κ μ : KH} {o o' : Int64} (h : j ≠ 126) : enc D n0 (κ, μ, o') j = enc D n0 (κ, μ, o) j := by
  unfold enc
  by_cases hj : j < 113
  · exact encR_cls hj
  · show encR D n0 j (κ j) _ o' = encR D n0 j (κ j) _ o
    unfold encR
    rw [if_neg (show ¬ j = 0 by omega), if_neg (show ¬ j = 0 by omega), if_neg (show ¬ j < 106 by omega), if_neg (show ¬ j < 106 by omega), if_neg (show ¬ j = 106 by omega), if_neg (show ¬ j = 106 by omega), if_neg (show ¬ j = 107 by omega), if_neg (show ¬ j = 107 by omega), if_neg (show ¬ j = 108 by omega), if_neg (show ¬ j = 108 by omega), if_neg (show ¬ j < 112 by omega), if_neg (show ¬ j < 112 by omega), if_neg (show ¬ j = 112 by omega), if_neg (show ¬ j = 112 by omega)]
    by_cases h7 : j = 113
    · rw [if_pos h7, if_pos h7]
    rw [if_neg h7, if_neg h7, if_neg h, if_neg h]


def isS (b : Nat) : Prop := b = 1 ∨ b = 36 ∨ b = 71
def isV (k : Nat) : Prop := 1 ≤ k ∧ k < 106 ∧ 2 ≤ (k - 1) % 35 ∧ (k - 1) % 35 < 34 ∧ (k - 1) % 35 % 2 = 0
theorem isV_of {b v : Nat} (hb : isS b) (hv : v < 16) : isV (b + 2 + 2 * v) := by
  have h : (b + 2 + 2 * v - 1) % 35 = 2 * v + 2 := by
    rcases hb with rfl | rfl | rfl
    · rw [show 1 + 2 + 2 * v - 1 = 2 * v + 2 by omega]; omega
    · rw [show 36 + 2 + 2 * v - 1 = 2 * v + 2 + 35 by omega]; omega
    · rw [show 71 + 2 + 2 * v - 1 = 2 * v + 2 + 70 by omega]; omega
  refine ⟨?_, ?_, ?_, ?_, ?_⟩
  · rcases hb with rfl | rfl | rfl <;> omega
  · rcases hb with rfl | rfl | rfl <;> omega
  · omega
  · omega
  · omega
section ENC
variable {D : DD} {n0 : Nat} {κ μ : KH} {o : Int64}
theorem enc_0 : enc D n0 (κ, μ, o) 0 = .inr (4, [.ref (n0 + 1), .ref (n0 + 36), .ref (n0 + 71), .ref (n0 + 106), .ref (n0 + 108), .ref (n0 + 112), .int (κ 0 6), .int (κ 0 7), .int (κ 0 8), .int (κ 0 9), .int (κ 0 10), .int (κ 0 11), .int (κ 0 12)]) := rfl
theorem enc_S {b : Nat} (hb : isS b) : enc D n0 (κ, μ, o) b = .inr (2, [.int (κ b 0), .int (κ b 1), .ref (n0 + (b + 1)), .ref (n0 + (b + 34))]) := by
  rcases hb with rfl | rfl | rfl <;> rfl
theorem enc_SV {b : Nat} (hb : isS b) : enc D n0 (κ, μ, o) (b + 1) = .inl (D.2.2.2.1, 16, .inr (.inr (.inr (.inr (fun v => some (n0 + (b + 2 + 2 * v))))))) := by
  rcases hb with rfl | rfl | rfl <;> rfl
theorem enc_SU {b : Nat} (hb : isS b) : enc D n0 (κ, μ, o) (b + 34) = .inl (D.2.1, 96, .inl (κ (b + 34))) := by
  rcases hb with rfl | rfl | rfl <;> rfl
theorem enc_V {k : Nat} (hk : isV k) : enc D n0 (κ, μ, o) k = .inr (3, [.int (κ k 0), .int (κ k 1), .int (κ k 2), .int (κ k 3), .int (κ k 4), .int (κ k 5), .ref (n0 + (k + 1))]) := by
  obtain ⟨h1, h2, h3, h4, h5⟩ := hk
  unfold enc encR
  rw [if_neg (by omega), if_pos h2, if_neg (by omega), if_neg (by omega), if_neg (by omega), if_pos h5]
theorem enc_E {k : Nat} (hk : isV k) : enc D n0 (κ, μ, o) (k + 1) = .inl (D.2.1, 40, .inl (κ (k + 1))) := by
  obtain ⟨h1, h2, h3, h4, h5⟩ := hk
  obtain ⟨q, rfl⟩ : ∃ q, k = q + 1 := ⟨k - 1, by omega⟩
  rw [Nat.add_sub_cancel] at h3 h4 h5
  have h6 : (q + 1) % 35 = q % 35 + 1 := by omega
  unfold enc encR
  rw [if_neg (by omega), if_pos (by omega), if_neg (by rw [Nat.add_sub_cancel]; omega), if_neg (by rw [Nat.add_sub_cancel]; omega), if_neg (by rw [Nat.add_sub_cancel]; omega), if_neg (by rw [Nat.add_sub_cancel]; omega)]
theorem enc_P : enc D n0 (κ, μ, o) 106 = .inr (0, [.int (κ 106 0), .int (κ 106 1), .int (κ 106 2), .int (κ 106 3), .int (κ 106 4), .ref (n0 + 1), .ref (n0 + 36), .ref (n0 + 71), .ref (n0 + 107)]) := rfl
theorem enc_Q : enc D n0 (κ, μ, o) 108 = .inr (1, [.int (κ 108 0), .ref (n0 + 109), .ref (n0 + 110), .ref (n0 + 111)]) := rfl
theorem enc_M : enc D n0 (κ, μ, o) 113 = .inr (5, [.int (μ 0 0), .ref (n0 + 114), .ref (n0 + 115), .ref (n0 + 116), .ref (n0 + 117), .ref (n0 + 118), .ref (n0 + 119), .ref (n0 + 120), .int (μ 0 8), .int (μ 0 9), .ref (n0 + 121), .ref (n0 + 122), .int (μ 0 12), .int (μ 0 13), .int (μ 0 14), .int (μ 0 15), .int (μ 0 16), .int (μ 0 17), .int (μ 0 18), .int (μ 0 19), .int (μ 0 20), .int (μ 0 21), .int (μ 0 22), .int (μ 0 23), .ref (n0 + 123), .ref (n0 + 124), .ref (n0 + 125)]) := rfl
theorem enc_126 : enc D n0 (κ, μ, o) 126 = .inl (D.2.2.2.2, 1, .inr (.inl (vp_updL (fun _ => 0) 0 o))) := rfl

theorem enc_107 : enc D n0 (κ, μ, o) 107 = .inl (D.2.1, 384, .inl (κ 107)) := rfl
theorem enc_109 : enc D n0 (κ, μ, o) 109 = .inl (D.2.1, 8, .inl (κ 109)) := rfl
theorem enc_110 : enc D n0 (κ, μ, o) 110 = .inl (D.2.1, 8, .inl (κ 110)) := rfl
theorem enc_111 : enc D n0 (κ, μ, o) 111 = .inl (D.2.1, 8, .inl (κ 111)) := rfl
theorem enc_112 : enc D n0 (κ, μ, o) 112 = .inl (D.2.1, 160, .inl (κ 112)) := rfl
theorem enc_114 : enc D n0 (κ, μ, o) 114 = .inl (D.2.2.1, 48, .inl (μ 1)) := rfl
theorem enc_115 : enc D n0 (κ, μ, o) 115 = .inl (D.2.1, 48, .inl (μ 2)) := rfl
theorem enc_116 : enc D n0 (κ, μ, o) 116 = .inl (D.2.2.1, 48, .inl (μ 3)) := rfl
theorem enc_117 : enc D n0 (κ, μ, o) 117 = .inl (D.2.1, 48, .inl (μ 4)) := rfl
theorem enc_118 : enc D n0 (κ, μ, o) 118 = .inl (D.2.1, 48, .inl (μ 5)) := rfl
theorem enc_119 : enc D n0 (κ, μ, o) 119 = .inl (D.2.1, 1920, .inl (μ 6)) := rfl
theorem enc_120 : enc D n0 (κ, μ, o) 120 = .inl (D.2.1, 3, .inl (μ 7)) := rfl
theorem enc_121 : enc D n0 (κ, μ, o) 121 = .inl (D.2.1, 384, .inl (μ 8)) := rfl
theorem enc_122 : enc D n0 (κ, μ, o) 122 = .inl (D.2.1, 160, .inl (μ 9)) := rfl
theorem enc_123 : enc D n0 (κ, μ, o) 123 = .inl (D.2.1, 8, .inl (μ 10)) := rfl
theorem enc_124 : enc D n0 (κ, μ, o) 124 = .inl (D.2.1, 8, .inl (μ 11)) := rfl
theorem enc_125 : enc D n0 (κ, μ, o) 125 = .inl (D.2.1, 8, .inl (μ 12)) := rfl
end ENC

/-! locals by places -/
def lh (lsA : Array Slot) (nL : Nat) (ls : List (Option Value)) : Prop := lsA.size = nL ∧ lv_wf lsA ∧ ∀ (i : Nat) (v : Value), ls[i]? = some (some v) → lsA[i]? = some (.val v) ∧ v.category = 1
def lhl (ls : List (Option Value)) : List (Nat × Value) := (List.range ls.length).filterMap (fun i => match ls[i]? with | some (some v) => some (i, v) | _ => none)
theorem lhl_mem {ls : List (Option Value)} {i : Nat} {v : Value} (h : ls[i]? = some (some v)) : (i, v) ∈ lhl ls := by
  refine List.mem_filterMap.mpr ⟨i, List.mem_range.mpr (List.getElem?_eq_some_iff.mp h).1, ?_⟩
  simp [h]
theorem lhl_of {ls : List (Option Value)} {q : Nat × Value} (h : q ∈ lhl ls) : ls[q.1]? = some (some q.2) := by
  obtain ⟨i, -, hi⟩ := List.mem_filterMap.mp h
  split at hi
  · cases hi; assumption
  · cases hi
theorem lh.has {lsA : Array Slot} {nL : Nat} {ls : List (Option Value)} (h : lh lsA nL ls) : lv_has lsA nL (lhl ls) := ⟨h.1, h.2.1, fun q hq => (h.2.2 q.1 q.2 (lhl_of hq)).1⟩
theorem lh.set {lsA lsA' : Array Slot} {nL i : Nat} {ls : List (Option Value)} {x : Value} (h : lh lsA nL ls) (hx : x.category = 1) (h' : lv_has lsA' nL ((i, x) :: (lhl ls).filter (fun q => !(q.1 == i) && !(q.1 + 1 == i && q.2.category == 2)))) : lh lsA' nL (ls.set i (some x)) := by
  refine ⟨h'.1, h'.2.1, fun j v hj => ?_⟩
  rw [List.getElem?_set] at hj
  by_cases hij : i = j
  · subst hij
    rw [if_pos rfl] at hj
    split at hj
    · cases hj
      exact ⟨h'.2.2 (i, x) List.mem_cons_self, hx⟩
    · cases hj
  · rw [if_neg hij] at hj
    obtain ⟨h1, h2⟩ := h.2.2 j v hj
    refine ⟨h'.2.2 (j, v) (List.mem_cons_of_mem _ (List.mem_filter.mpr ⟨lhl_mem hj, ?_⟩)), h2⟩
    have hji : ¬ j = i := fun q => hij q.symm
    simp [h2, hji]
def lle : List (Option Value) → List (Option Value) → Prop
  | [], _ => True
  | none :: a, _ :: b => lle a b
  | some x :: a, y :: b => y = some x ∧ lle a b
  | none :: a, [] => lle a []
  | some _ :: _, [] => False
theorem lle_at : ∀ (a b : List (Option Value)), lle a b → ∀ (i : Nat) (v : Value), a[i]? = some (some v) → b[i]? = some (some v)
  | [], _, _, i, v, h => by simp at h
  | none :: a, y :: b, hl, 0, v, h => by simp at h
  | none :: a, y :: b, hl, i + 1, v, h => by simpa using lle_at a b hl i v (by simpa using h)
  | none :: a, [], hl, 0, v, h => by simp at h
  | none :: a, [], hl, i + 1, v, h => by simpa using lle_at a [] hl i v (by simpa using h)
  | some x :: a, y :: b, hl, 0, v, h => by simp at h; subst h; simp [hl.1]
  | some x :: a, y :: b, hl, i + 1, v, h => by simpa using lle_at a b hl.2 i v (by simpa using h)
  | some _ :: _, [], hl, _, _, _ => hl.elim
theorem lh.fewer {lsA : Array Slot} {nL : Nat} {ls ls' : List (Option Value)} (h : lh lsA nL ls) (hl : lle ls' ls) : lh lsA nL ls' := ⟨h.1, h.2.1, fun i v hi => h.2.2 i v (lle_at _ _ hl i v hi)⟩
/-! the judgement: from these cells, at this place, with these locals and this stack -/
def Cx (p : Program) (l : Launch) (s : State) (m : MethodId) (args : Array Value) (meth : Method) (c : Code) (D : DD) (n0 : Nat) (own : String) (cc : ByteArray) (nL : Nat) : Prop :=
  p.tables.exec = Jvm.exec ∧ c.code = cc ∧ c.maxLocals = nL ∧ s.vm.findClass own = some m.cls ∧ (∀ w ∈ tb, w.before args s = true) ∧ va_K D.1 vwCl (tyl D) s ∧ n0 ≤ s.heap.size ∧ meth.locks = false

def ZZ (p : Program) (l : Launch) (e : Env) (R : Room) (s : State) (m : MethodId) (args : Array Value) (below : List Frame) (meth : Method) (c : Code) (D : DD) (n0 N nL cells slots : Nat) (Q : State → Prop) (σ : ST) (pc : Nat) (ls : List (Option Value)) (st : List Value) : Prop :=
  ∀ (H : Heap) (locs : List Loc) (lsA : Array Slot), va_P D.1 vwCl (wl D n0 N σ) H → va_S (fun q => n0 ≤ q) s.heap H locs → lh lsA nL ls → W p l e R s m args below meth c H locs cells slots Q (F0 m pc lsA st)
section ROWS
variable {p : Program} {l : Launch} {e : Env} {R : Room} {s : State} {m : MethodId} {args : Array Value} {below : List Frame} {meth : Method} {c : Code} {D : DD} {n0 N nL cells slots : Nat} {Q : State → Prop} {own : String} {cc : ByteArray} {σ σ1 : ST} {pc : Nat} {ls : List (Option Value)} {st : List Value}
theorem z_iconst (C : Cx p l s m args meth c D n0 own cc nL) {n : Int} {v : Int32} (hv : Int32.ofInt n = v) (hd : decode cc pc = .ok (.iconst n, 1)) (kk : ZZ p l e R s m args below meth c D n0 N nL cells slots Q σ (pc + 1) ls (.int v :: st)) : ZZ p l e R s m args below meth c D n0 N nL cells slots Q σ pc ls (st) := fun H locs lsA hP hS hl => lv_iconst C.1 C.2.1 hd hv (kk H locs lsA hP hS hl)
theorem z_bipush (C : Cx p l s m args meth c D n0 own cc nL) {n : Int} {v : Int32} (hv : (Int8.ofInt n).toInt32 = v) (hd : decode cc pc = .ok (.bipush n, 2)) (kk : ZZ p l e R s m args below meth c D n0 N nL cells slots Q σ (pc + 2) ls (.int v :: st)) : ZZ p l e R s m args below meth c D n0 N nL cells slots Q σ pc ls (st) := fun H locs lsA hP hS hl => lv_bipush C.1 C.2.1 hd hv (kk H locs lsA hP hS hl)
theorem z_sipush (C : Cx p l s m args meth c D n0 own cc nL) {n : Int} {v : Int32} (hv : (Int16.ofInt n).toInt32 = v) (hd : decode cc pc = .ok (.sipush n, 3)) (kk : ZZ p l e R s m args below meth c D n0 N nL cells slots Q σ (pc + 3) ls (.int v :: st)) : ZZ p l e R s m args below meth c D n0 N nL cells slots Q σ pc ls (st) := fun H locs lsA hP hS hl => lv_sipush C.1 C.2.1 hd hv (kk H locs lsA hP hS hl)
theorem z_null (C : Cx p l s m args meth c D n0 own cc nL)  (hd : decode cc pc = .ok (.aconst_null, 1)) (kk : ZZ p l e R s m args below meth c D n0 N nL cells slots Q σ (pc + 1) ls (.null :: st)) : ZZ p l e R s m args below meth c D n0 N nL cells slots Q σ pc ls (st) := fun H locs lsA hP hS hl => lv_null C.1 C.2.1 hd (kk H locs lsA hP hS hl)
theorem z_iload_n (C : Cx p l s m args meth c D n0 own cc nL) {i : Fin 4} {x : Int32} (hi : ls[(i : Nat)]? = some (some (.int x))) (hd : decode cc pc = .ok (.iload_n i, 1)) (kk : ZZ p l e R s m args below meth c D n0 N nL cells slots Q σ (pc + 1) ls (.int x :: st)) : ZZ p l e R s m args below meth c D n0 N nL cells slots Q σ pc ls (st) := fun H locs lsA hP hS hl => lv_iload_n C.1 C.2.1 hd rfl (hl.2.2 _ _ hi).1 (kk H locs lsA hP hS hl)
theorem z_iload (C : Cx p l s m args meth c D n0 own cc nL) {i : Nat} {x : Int32} (hi : ls[i]? = some (some (.int x))) (hd : decode cc pc = .ok (.iload i, 2)) (kk : ZZ p l e R s m args below meth c D n0 N nL cells slots Q σ (pc + 2) ls (.int x :: st)) : ZZ p l e R s m args below meth c D n0 N nL cells slots Q σ pc ls (st) := fun H locs lsA hP hS hl => lv_iload C.1 C.2.1 hd (hl.2.2 _ _ hi).1 (kk H locs lsA hP hS hl)
theorem z_aload_n (C : Cx p l s m args meth c D n0 own cc nL) {i : Fin 4} {x : Nat} (hi : ls[(i : Nat)]? = some (some (.ref x))) (hd : decode cc pc = .ok (.aload_n i, 1)) (kk : ZZ p l e R s m args below meth c D n0 N nL cells slots Q σ (pc + 1) ls (.ref x :: st)) : ZZ p l e R s m args below meth c D n0 N nL cells slots Q σ pc ls (st) := fun H locs lsA hP hS hl => lv_aload_n C.1 C.2.1 hd rfl (hl.2.2 _ _ hi).1 (kk H locs lsA hP hS hl)
theorem z_aload (C : Cx p l s m args meth c D n0 own cc nL) {i : Nat} {x : Nat} (hi : ls[i]? = some (some (.ref x))) (hd : decode cc pc = .ok (.aload i, 2)) (kk : ZZ p l e R s m args below meth c D n0 N nL cells slots Q σ (pc + 2) ls (.ref x :: st)) : ZZ p l e R s m args below meth c D n0 N nL cells slots Q σ pc ls (st) := fun H locs lsA hP hS hl => lv_aload C.1 C.2.1 hd (hl.2.2 _ _ hi).1 (kk H locs lsA hP hS hl)
theorem z_aload_nN (C : Cx p l s m args meth c D n0 own cc nL) {i : Fin 4} (hi : ls[(i : Nat)]? = some (some .null)) (hd : decode cc pc = .ok (.aload_n i, 1)) (kk : ZZ p l e R s m args below meth c D n0 N nL cells slots Q σ (pc + 1) ls (.null :: st)) : ZZ p l e R s m args below meth c D n0 N nL cells slots Q σ pc ls (st) := fun H locs lsA hP hS hl => lv_aload_nN C.1 C.2.1 hd rfl (hl.2.2 _ _ hi).1 (kk H locs lsA hP hS hl)
theorem z_iadd (C : Cx p l s m args meth c D n0 own cc nL) {x y v : Int32} (hv : x + y = v) (hd : decode cc pc = .ok (.iadd, 1)) (kk : ZZ p l e R s m args below meth c D n0 N nL cells slots Q σ (pc + 1) ls (.int v :: st)) : ZZ p l e R s m args below meth c D n0 N nL cells slots Q σ pc ls (.int y :: .int x :: st) := fun H locs lsA hP hS hl => lv_iadd C.1 C.2.1 hd (hv ▸ (kk H locs lsA hP hS hl))
theorem z_isub (C : Cx p l s m args meth c D n0 own cc nL) {x y v : Int32} (hv : x - y = v) (hd : decode cc pc = .ok (.isub, 1)) (kk : ZZ p l e R s m args below meth c D n0 N nL cells slots Q σ (pc + 1) ls (.int v :: st)) : ZZ p l e R s m args below meth c D n0 N nL cells slots Q σ pc ls (.int y :: .int x :: st) := fun H locs lsA hP hS hl => lv_isub C.1 C.2.1 hd (hv ▸ (kk H locs lsA hP hS hl))
theorem z_imul (C : Cx p l s m args meth c D n0 own cc nL) {x y v : Int32} (hv : x * y = v) (hd : decode cc pc = .ok (.imul, 1)) (kk : ZZ p l e R s m args below meth c D n0 N nL cells slots Q σ (pc + 1) ls (.int v :: st)) : ZZ p l e R s m args below meth c D n0 N nL cells slots Q σ pc ls (.int y :: .int x :: st) := fun H locs lsA hP hS hl => lv_imul C.1 C.2.1 hd (hv ▸ (kk H locs lsA hP hS hl))
theorem z_iand (C : Cx p l s m args meth c D n0 own cc nL) {x y v : Int32} (hv : x &&& y = v) (hd : decode cc pc = .ok (.iand, 1)) (kk : ZZ p l e R s m args below meth c D n0 N nL cells slots Q σ (pc + 1) ls (.int v :: st)) : ZZ p l e R s m args below meth c D n0 N nL cells slots Q σ pc ls (.int y :: .int x :: st) := fun H locs lsA hP hS hl => lv_iand C.1 C.2.1 hd (hv ▸ (kk H locs lsA hP hS hl))
theorem z_idiv (C : Cx p l s m args meth c D n0 own cc nL) {x y v : Int32} (hne : ¬ y = 0) (hv : x / y = v) (hd : decode cc pc = .ok (.idiv, 1)) (kk : ZZ p l e R s m args below meth c D n0 N nL cells slots Q σ (pc + 1) ls (.int v :: st)) : ZZ p l e R s m args below meth c D n0 N nL cells slots Q σ pc ls (.int y :: .int x :: st) := fun H locs lsA hP hS hl => lv_idiv C.1 C.2.1 hd hne (hv ▸ (kk H locs lsA hP hS hl))
theorem z_irem (C : Cx p l s m args meth c D n0 own cc nL) {x y v : Int32} (hne : ¬ y = 0) (hv : x - x / y * y = v) (hd : decode cc pc = .ok (.irem, 1)) (kk : ZZ p l e R s m args below meth c D n0 N nL cells slots Q σ (pc + 1) ls (.int v :: st)) : ZZ p l e R s m args below meth c D n0 N nL cells slots Q σ pc ls (.int y :: .int x :: st) := fun H locs lsA hP hS hl => lv_irem C.1 C.2.1 hd hne (hv ▸ (kk H locs lsA hP hS hl))
theorem z_i2l (C : Cx p l s m args meth c D n0 own cc nL) {x : Int32} (hd : decode cc pc = .ok (.i2l, 1)) (kk : ZZ p l e R s m args below meth c D n0 N nL cells slots Q σ (pc + 1) ls (.long x.toInt64 :: st)) : ZZ p l e R s m args below meth c D n0 N nL cells slots Q σ pc ls (.int x :: st) := fun H locs lsA hP hS hl => lv_i2l C.1 C.2.1 hd rfl (kk H locs lsA hP hS hl)
theorem z_dup (C : Cx p l s m args meth c D n0 own cc nL) {va : Value} (hva : va.category = 1) (hd : decode cc pc = .ok (.dup, 1)) (kk : ZZ p l e R s m args below meth c D n0 N nL cells slots Q σ (pc + 1) ls (va :: va :: st)) : ZZ p l e R s m args below meth c D n0 N nL cells slots Q σ pc ls (va :: st) := fun H locs lsA hP hS hl => lv_dup C.1 C.2.1 hd hva (kk H locs lsA hP hS hl)
theorem z_dup2 (C : Cx p l s m args meth c D n0 own cc nL) {va vb : Value} (hva : va.category = 1) (hvb : vb.category = 1) (hd : decode cc pc = .ok (.dup2, 1)) (kk : ZZ p l e R s m args below meth c D n0 N nL cells slots Q σ (pc + 1) ls (va :: vb :: va :: vb :: st)) : ZZ p l e R s m args below meth c D n0 N nL cells slots Q σ pc ls (va :: vb :: st) := fun H locs lsA hP hS hl => lv_dup2_11 C.1 C.2.1 hd hva hvb (kk H locs lsA hP hS hl)
theorem z_pop (C : Cx p l s m args meth c D n0 own cc nL) {va : Value} (hva : va.category = 1) (hd : decode cc pc = .ok (.pop, 1)) (kk : ZZ p l e R s m args below meth c D n0 N nL cells slots Q σ (pc + 1) ls (st)) : ZZ p l e R s m args below meth c D n0 N nL cells slots Q σ pc ls (va :: st) := fun H locs lsA hP hS hl => lv_pop C.1 C.2.1 hd hva (kk H locs lsA hP hS hl)
theorem z_istore_n (C : Cx p l s m args meth c D n0 own cc nL) {i : Fin 4} {x : Int32} {ls' : List (Option Value)} (hn : (i : Nat) < nL) (hl' : ls.set i (some (.int x)) = ls') (hd : decode cc pc = .ok (.istore_n i, 1)) (kk : ZZ p l e R s m args below meth c D n0 N nL cells slots Q σ (pc + 1) ls' (st)) : ZZ p l e R s m args below meth c D n0 N nL cells slots Q σ pc ls (.int x :: st) := fun H locs lsA hP hS hl => lv_istore_n C.1 C.2.1 hd rfl hl.has hn rfl (fun lsB hB => kk H locs lsB hP hS (hl' ▸ hl.set rfl hB))
theorem z_istore (C : Cx p l s m args meth c D n0 own cc nL) {i : Nat} {x : Int32} {ls' : List (Option Value)} (hn : (i : Nat) < nL) (hl' : ls.set i (some (.int x)) = ls') (hd : decode cc pc = .ok (.istore i, 2)) (kk : ZZ p l e R s m args below meth c D n0 N nL cells slots Q σ (pc + 2) ls' (st)) : ZZ p l e R s m args below meth c D n0 N nL cells slots Q σ pc ls (.int x :: st) := fun H locs lsA hP hS hl => lv_istore C.1 C.2.1 hd hl.has hn rfl (fun lsB hB => kk H locs lsB hP hS (hl' ▸ hl.set rfl hB))
theorem z_astore_n (C : Cx p l s m args meth c D n0 own cc nL) {i : Fin 4} {x : Nat} {ls' : List (Option Value)} (hn : (i : Nat) < nL) (hl' : ls.set i (some (.ref x)) = ls') (hd : decode cc pc = .ok (.astore_n i, 1)) (kk : ZZ p l e R s m args below meth c D n0 N nL cells slots Q σ (pc + 1) ls' (st)) : ZZ p l e R s m args below meth c D n0 N nL cells slots Q σ pc ls (.ref x :: st) := fun H locs lsA hP hS hl => lv_astore_n C.1 C.2.1 hd rfl hl.has hn rfl (fun lsB hB => kk H locs lsB hP hS (hl' ▸ hl.set rfl hB))
theorem z_astore (C : Cx p l s m args meth c D n0 own cc nL) {i : Nat} {x : Nat} {ls' : List (Option Value)} (hn : (i : Nat) < nL) (hl' : ls.set i (some (.ref x)) = ls') (hd : decode cc pc = .ok (.astore i, 2)) (kk : ZZ p l e R s m args below meth c D n0 N nL cells slots Q σ (pc + 2) ls' (st)) : ZZ p l e R s m args below meth c D n0 N nL cells slots Q σ pc ls (.ref x :: st) := fun H locs lsA hP hS hl => lv_astore C.1 C.2.1 hd hl.has hn rfl (fun lsB hB => kk H locs lsB hP hS (hl' ▸ hl.set rfl hB))
theorem z_astore_nN (C : Cx p l s m args meth c D n0 own cc nL) {i : Fin 4} {ls' : List (Option Value)} (hn : (i : Nat) < nL) (hl' : ls.set i (some (.null)) = ls') (hd : decode cc pc = .ok (.astore_n i, 1)) (kk : ZZ p l e R s m args below meth c D n0 N nL cells slots Q σ (pc + 1) ls' (st)) : ZZ p l e R s m args below meth c D n0 N nL cells slots Q σ pc ls (.null :: st) := fun H locs lsA hP hS hl => lv_astore_nN C.1 C.2.1 hd rfl hl.has hn rfl (fun lsB hB => kk H locs lsB hP hS (hl' ▸ hl.set rfl hB))
theorem z_iinc (C : Cx p l s m args meth c D n0 own cc nL) {i : Nat} {n : Int} {x v : Int32} {ls' : List (Option Value)} (hi : ls[i]? = some (some (.int x))) (hv : x + Int32.ofInt n = v) (hn : i < nL) (hl' : ls.set i (some (.int v)) = ls') (hd : decode cc pc = .ok (.iinc i n, 3)) (kk : ZZ p l e R s m args below meth c D n0 N nL cells slots Q σ (pc + 3) ls' st) : ZZ p l e R s m args below meth c D n0 N nL cells slots Q σ pc ls st := by
  intro H locs lsA hP hS hl
  obtain ⟨k, hk⟩ := List.getElem?_of_mem (lhl_mem hi)
  exact lv_iinc C.1 C.2.1 hd hl.has hk hv hn rfl (fun lsB hB => kk H locs lsB hP hS (hl' ▸ hl.set rfl hB))
theorem z_goto (C : Cx p l s m args meth c D n0 own cc nL) {off : Int} {tgt : Nat} (hd : decode cc pc = .ok (.goto off, 3)) (ht : (pc : Int) + off = (tgt : Int)) (kk : ZZ p l e R s m args below meth c D n0 N nL cells slots Q σ tgt ls st) : ZZ p l e R s m args below meth c D n0 N nL cells slots Q σ pc ls st := fun H locs lsA hP hS hl => lv_goto C.1 C.2.1 hd ht (kk H locs lsA hP hS hl)
theorem z_if_eq (C : Cx p l s m args meth c D n0 own cc nL) {x : Int32} {off : Int} {tgt : Nat} (hd : decode cc pc = .ok (.ifCond .eq off, 3)) (ht : (pc : Int) + off = (tgt : Int)) (kt : x = 0 → ZZ p l e R s m args below meth c D n0 N nL cells slots Q σ tgt ls st) (kf : ¬ x = 0 → ZZ p l e R s m args below meth c D n0 N nL cells slots Q σ (pc + 3) ls st) : ZZ p l e R s m args below meth c D n0 N nL cells slots Q σ pc ls (.int x :: st) := fun H locs lsA hP hS hl => lv_if_eq C.1 C.2.1 hd ht (fun q => kt q H locs lsA hP hS hl) (fun q => kf q H locs lsA hP hS hl)
theorem z_if_ne (C : Cx p l s m args meth c D n0 own cc nL) {x : Int32} {off : Int} {tgt : Nat} (hd : decode cc pc = .ok (.ifCond .ne off, 3)) (ht : (pc : Int) + off = (tgt : Int)) (kt : x ≠ 0 → ZZ p l e R s m args below meth c D n0 N nL cells slots Q σ tgt ls st) (kf : x = 0 → ZZ p l e R s m args below meth c D n0 N nL cells slots Q σ (pc + 3) ls st) : ZZ p l e R s m args below meth c D n0 N nL cells slots Q σ pc ls (.int x :: st) := fun H locs lsA hP hS hl => lv_if_ne C.1 C.2.1 hd ht (fun q => kt q H locs lsA hP hS hl) (fun q => kf q H locs lsA hP hS hl)
theorem z_if_lt (C : Cx p l s m args meth c D n0 own cc nL) {x : Int32} {off : Int} {tgt : Nat} (hd : decode cc pc = .ok (.ifCond .lt off, 3)) (ht : (pc : Int) + off = (tgt : Int)) (kt : x < 0 → ZZ p l e R s m args below meth c D n0 N nL cells slots Q σ tgt ls st) (kf : ¬ x < 0 → ZZ p l e R s m args below meth c D n0 N nL cells slots Q σ (pc + 3) ls st) : ZZ p l e R s m args below meth c D n0 N nL cells slots Q σ pc ls (.int x :: st) := fun H locs lsA hP hS hl => lv_if_lt C.1 C.2.1 hd ht (fun q => kt q H locs lsA hP hS hl) (fun q => kf q H locs lsA hP hS hl)
theorem z_if_ge (C : Cx p l s m args meth c D n0 own cc nL) {x : Int32} {off : Int} {tgt : Nat} (hd : decode cc pc = .ok (.ifCond .ge off, 3)) (ht : (pc : Int) + off = (tgt : Int)) (kt : 0 ≤ x → ZZ p l e R s m args below meth c D n0 N nL cells slots Q σ tgt ls st) (kf : ¬ 0 ≤ x → ZZ p l e R s m args below meth c D n0 N nL cells slots Q σ (pc + 3) ls st) : ZZ p l e R s m args below meth c D n0 N nL cells slots Q σ pc ls (.int x :: st) := fun H locs lsA hP hS hl => lv_if_ge C.1 C.2.1 hd ht (fun q => kt q H locs lsA hP hS hl) (fun q => kf q H locs lsA hP hS hl)
theorem z_if_gt (C : Cx p l s m args meth c D n0 own cc nL) {x : Int32} {off : Int} {tgt : Nat} (hd : decode cc pc = .ok (.ifCond .gt off, 3)) (ht : (pc : Int) + off = (tgt : Int)) (kt : 0 < x → ZZ p l e R s m args below meth c D n0 N nL cells slots Q σ tgt ls st) (kf : ¬ 0 < x → ZZ p l e R s m args below meth c D n0 N nL cells slots Q σ (pc + 3) ls st) : ZZ p l e R s m args below meth c D n0 N nL cells slots Q σ pc ls (.int x :: st) := fun H locs lsA hP hS hl => lv_if_gt C.1 C.2.1 hd ht (fun q => kt q H locs lsA hP hS hl) (fun q => kf q H locs lsA hP hS hl)
theorem z_if_le (C : Cx p l s m args meth c D n0 own cc nL) {x : Int32} {off : Int} {tgt : Nat} (hd : decode cc pc = .ok (.ifCond .le off, 3)) (ht : (pc : Int) + off = (tgt : Int)) (kt : x ≤ 0 → ZZ p l e R s m args below meth c D n0 N nL cells slots Q σ tgt ls st) (kf : ¬ x ≤ 0 → ZZ p l e R s m args below meth c D n0 N nL cells slots Q σ (pc + 3) ls st) : ZZ p l e R s m args below meth c D n0 N nL cells slots Q σ pc ls (.int x :: st) := fun H locs lsA hP hS hl => lv_if_le C.1 C.2.1 hd ht (fun q => kt q H locs lsA hP hS hl) (fun q => kf q H locs lsA hP hS hl)
theorem z_icmp_eq (C : Cx p l s m args meth c D n0 own cc nL) {x y : Int32} {off : Int} {tgt : Nat} (hd : decode cc pc = .ok (.if_icmp .eq off, 3)) (ht : (pc : Int) + off = (tgt : Int)) (kt : x = y → ZZ p l e R s m args below meth c D n0 N nL cells slots Q σ tgt ls st) (kf : ¬ x = y → ZZ p l e R s m args below meth c D n0 N nL cells slots Q σ (pc + 3) ls st) : ZZ p l e R s m args below meth c D n0 N nL cells slots Q σ pc ls (.int y :: .int x :: st) := fun H locs lsA hP hS hl => lv_icmp_eq C.1 C.2.1 hd ht (fun q => kt q H locs lsA hP hS hl) (fun q => kf q H locs lsA hP hS hl)
theorem z_icmp_ne (C : Cx p l s m args meth c D n0 own cc nL) {x y : Int32} {off : Int} {tgt : Nat} (hd : decode cc pc = .ok (.if_icmp .ne off, 3)) (ht : (pc : Int) + off = (tgt : Int)) (kt : x ≠ y → ZZ p l e R s m args below meth c D n0 N nL cells slots Q σ tgt ls st) (kf : x = y → ZZ p l e R s m args below meth c D n0 N nL cells slots Q σ (pc + 3) ls st) : ZZ p l e R s m args below meth c D n0 N nL cells slots Q σ pc ls (.int y :: .int x :: st) := fun H locs lsA hP hS hl => lv_icmp_ne C.1 C.2.1 hd ht (fun q => kt q H locs lsA hP hS hl) (fun q => kf q H locs lsA hP hS hl)
theorem z_icmp_lt (C : Cx p l s m args meth c D n0 own cc nL) {x y : Int32} {off : Int} {tgt : Nat} (hd : decode cc pc = .ok (.if_icmp .lt off, 3)) (ht : (pc : Int) + off = (tgt : Int)) (kt : x < y → ZZ p l e R s m args below meth c D n0 N nL cells slots Q σ tgt ls st) (kf : ¬ x < y → ZZ p l e R s m args below meth c D n0 N nL cells slots Q σ (pc + 3) ls st) : ZZ p l e R s m args below meth c D n0 N nL cells slots Q σ pc ls (.int y :: .int x :: st) := fun H locs lsA hP hS hl => lv_icmp_lt C.1 C.2.1 hd ht (fun q => kt q H locs lsA hP hS hl) (fun q => kf q H locs lsA hP hS hl)
theorem z_icmp_ge (C : Cx p l s m args meth c D n0 own cc nL) {x y : Int32} {off : Int} {tgt : Nat} (hd : decode cc pc = .ok (.if_icmp .ge off, 3)) (ht : (pc : Int) + off = (tgt : Int)) (kt : y ≤ x → ZZ p l e R s m args below meth c D n0 N nL cells slots Q σ tgt ls st) (kf : ¬ y ≤ x → ZZ p l e R s m args below meth c D n0 N nL cells slots Q σ (pc + 3) ls st) : ZZ p l e R s m args below meth c D n0 N nL cells slots Q σ pc ls (.int y :: .int x :: st) := fun H locs lsA hP hS hl => lv_icmp_ge C.1 C.2.1 hd ht (fun q => kt q H locs lsA hP hS hl) (fun q => kf q H locs lsA hP hS hl)
theorem z_icmp_gt (C : Cx p l s m args meth c D n0 own cc nL) {x y : Int32} {off : Int} {tgt : Nat} (hd : decode cc pc = .ok (.if_icmp .gt off, 3)) (ht : (pc : Int) + off = (tgt : Int)) (kt : y < x → ZZ p l e R s m args below meth c D n0 N nL cells slots Q σ tgt ls st) (kf : ¬ y < x → ZZ p l e R s m args below meth c D n0 N nL cells slots Q σ (pc + 3) ls st) : ZZ p l e R s m args below meth c D n0 N nL cells slots Q σ pc ls (.int y :: .int x :: st) := fun H locs lsA hP hS hl => lv_icmp_gt C.1 C.2.1 hd ht (fun q => kt q H locs lsA hP hS hl) (fun q => kf q H locs lsA hP hS hl)
theorem z_icmp_le (C : Cx p l s m args meth c D n0 own cc nL) {x y : Int32} {off : Int} {tgt : Nat} (hd : decode cc pc = .ok (.if_icmp .le off, 3)) (ht : (pc : Int) + off = (tgt : Int)) (kt : x ≤ y → ZZ p l e R s m args below meth c D n0 N nL cells slots Q σ tgt ls st) (kf : ¬ x ≤ y → ZZ p l e R s m args below meth c D n0 N nL cells slots Q σ (pc + 3) ls st) : ZZ p l e R s m args below meth c D n0 N nL cells slots Q σ pc ls (.int y :: .int x :: st) := fun H locs lsA hP hS hl => lv_icmp_le C.1 C.2.1 hd ht (fun q => kt q H locs lsA hP hS hl) (fun q => kf q H locs lsA hP hS hl)
theorem z_ifnonnull (C : Cx p l s m args meth c D n0 own cc nL) {x : Nat} {off : Int} {tgt : Nat} (hd : decode cc pc = .ok (.ifnonnull off, 3)) (ht : (pc : Int) + off = (tgt : Int)) (kk : ZZ p l e R s m args below meth c D n0 N nL cells slots Q σ tgt ls st) : ZZ p l e R s m args below meth c D n0 N nL cells slots Q σ pc ls (.ref x :: st) := fun H locs lsA hP hS hl => lv_ifnonnull C.1 C.2.1 hd ht (kk H locs lsA hP hS hl)
theorem z_ifnonnullN (C : Cx p l s m args meth c D n0 own cc nL) {off : Int} (hd : decode cc pc = .ok (.ifnonnull off, 3)) (kk : ZZ p l e R s m args below meth c D n0 N nL cells slots Q σ (pc + 3) ls st) : ZZ p l e R s m args below meth c D n0 N nL cells slots Q σ pc ls (.null :: st) := fun H locs lsA hP hS hl => lv_ifnonnullN C.1 C.2.1 hd (kk H locs lsA hP hS hl)
theorem z_ifnull (C : Cx p l s m args meth c D n0 own cc nL) {x : Nat} {off : Int} (hd : decode cc pc = .ok (.ifnull off, 3)) (kk : ZZ p l e R s m args below meth c D n0 N nL cells slots Q σ (pc + 3) ls st) : ZZ p l e R s m args below meth c D n0 N nL cells slots Q σ pc ls (.ref x :: st) := fun H locs lsA hP hS hl => lv_ifnull C.1 C.2.1 hd (kk H locs lsA hP hS hl)
theorem z_ifnullN (C : Cx p l s m args meth c D n0 own cc nL) {off : Int} {tgt : Nat} (hd : decode cc pc = .ok (.ifnull off, 3)) (ht : (pc : Int) + off = (tgt : Int)) (kk : ZZ p l e R s m args below meth c D n0 N nL cells slots Q σ tgt ls st) : ZZ p l e R s m args below meth c D n0 N nL cells slots Q σ pc ls (.null :: st) := fun H locs lsA hP hS hl => lv_ifnullN C.1 C.2.1 hd ht (kk H locs lsA hP hS hl)
theorem z_fewer {ls' : List (Option Value)} (hl' : lle ls' ls) (kk : ZZ p l e R s m args below meth c D n0 N nL cells slots Q σ pc ls' st) : ZZ p l e R s m args below meth c D n0 N nL cells slots Q σ pc ls st := fun H locs lsA hP hS hl => kk H locs lsA hP hS (hl.fewer hl')
theorem z_widen {k n : Nat} (h1 : cells ≤ k) (h2 : slots ≤ n) (kk : ZZ p l e R s m args below meth c D n0 N nL k n Q σ pc ls st) : ZZ p l e R s m args below meth c D n0 N nL cells slots Q σ pc ls st := fun H locs lsA hP hS hl => W.widen h1 h2 (kk H locs lsA hP hS hl)
theorem z_tableOut (C : Cx p l s m args meth c D n0 own cc nL) {dflt lo hi : Int} {offs : Array Int} {len : Nat} {x : Int32} {tgt : Nat} (hd : decode cc pc = .ok (.tableswitch dflt lo hi offs, len)) (h : x.toInt < lo ∨ hi < x.toInt) (ht : (pc : Int) + dflt = (tgt : Int)) (kk : ZZ p l e R s m args below meth c D n0 N nL cells slots Q σ tgt ls st) : ZZ p l e R s m args below meth c D n0 N nL cells slots Q σ pc ls (.int x :: st) := fun H locs lsA hP hS hl => lv_tableOut C.1 C.2.1 hd h ht (kk H locs lsA hP hS hl)
theorem z_tableIn (C : Cx p l s m args meth c D n0 own cc nL) {dflt lo hi : Int} {offs : Array Int} {len : Nat} {x : Int32} {off : Int} {tgt : Nat} (hd : decode cc pc = .ok (.tableswitch dflt lo hi offs, len)) (h1 : ¬ x.toInt < lo) (h2 : ¬ hi < x.toInt) (ho : offs[(x.toInt - lo).toNat]? = some off) (ht : (pc : Int) + off = (tgt : Int)) (kk : ZZ p l e R s m args below meth c D n0 N nL cells slots Q σ tgt ls st) : ZZ p l e R s m args below meth c D n0 N nL cells slots Q σ pc ls (.int x :: st) := fun H locs lsA hP hS hl => lv_tableIn C.1 C.2.1 hd h1 h2 ho ht (kk H locs lsA hP hS hl)
theorem z_getf (C : Cx p l s m args meth c D n0 own cc nL) {k ci idx : Nat} {ref Cn : String} {T : u_T} {NF : Nat} {fs : List Value} {v : Value} (f : Nat) (he : enc D n0 σ k = .inr (ci, fs)) (hk : k < N) (hc : vwCl[ci]? = some (Cn, T, NF)) (hin : ∀ w ∈ u_ws Cn T NF, w ∈ tb) (hf : f < NF) (hlink : Cond.fieldLink own idx ref (T f).2.1 (T f).2.2.1 ∈ tb) (href : (T f).1 = ref) (hv : fs[f]? = some v) (hd : decode cc pc = .ok (.getfield idx, 3)) (kk : ZZ p l e R s m args below meth c D n0 N nL cells slots Q σ (pc + 3) ls (v :: st)) : ZZ p l e R s m args below meth c D n0 N nL cells slots Q σ pc ls (.ref (n0 + k) :: st) := fun H locs lsA hP hS hl => va_get C.1 C.2.1 C.2.2.2.2.1 hin C.2.2.2.1 C.2.2.2.2.2.1 hP k (fs := fs) (by rw [wl_get hk, he]) hc f hf (C.2.2.2.2.1 _ hlink) (fun x h => by rw [← href]; exact h) hv hd (kk H locs lsA hP hS hl)
theorem z_putf (C : Cx p l s m args meth c D n0 own cc nL) {k ci idx : Nat} {ref Cn : String} {T : u_T} {NF : Nat} {fs : List Value} {v : Value} {ty : FieldType} (f : Nat) (ty0 : Nat → FieldType) (he : enc D n0 σ k = .inr (ci, fs)) (he' : enc D n0 σ1 k = .inr (ci, fs.set f v)) (hne : ∀ j, j ≠ k → enc D n0 σ1 j = enc D n0 σ j) (hk : k < N) (hc : vwCl[ci]? = some (Cn, T, NF)) (hin : ∀ w ∈ u_ws Cn T NF, w ∈ tb) (hty : ∀ k, k < NF → parseFieldDescriptor (T k).2.2.1 = some (ty0 k)) (hnm : ∀ a, a < NF → ∀ b, b < NF → a ≠ b → (T a).2.1 ≠ (T b).2.1) (hf : f < NF) (hlink : Cond.fieldLink own idx ref (T f).2.1 (T f).2.2.1 ∈ tb) (href : (T f).1 = ref) (hfin : (T f).2.2.2 = false) (hdesc : parseFieldDescriptor (T f).2.2.1 = some ty) (hn : narrow ty v = v) (hfit : fits ty v = true) (hlen : f < fs.length) (hd : decode cc pc = .ok (.putfield idx, 3)) (kk : ZZ p l e R s m args below meth c D n0 N nL cells slots Q σ1 (pc + 3) ls st) : ZZ p l e R s m args below meth c D n0 N nL cells slots Q σ pc ls (v :: .ref (n0 + k) :: st) := fun H locs lsA hP hS hl => va_put C.1 C.2.1 C.2.2.2.2.1 hin ty0 hty hnm C.2.2.2.1 C.2.2.2.2.2.1 hP wl_D hS k (fs := fs) (by rw [wl_get hk, he]) hc f hf (C.2.2.2.2.1 _ hlink) (fun x h => by rw [← href]; exact h) hfin hdesc hn hfit hlen hd (fun H1 locs1 hP1 hD1 hS1 => kk H1 locs1 lsA (by rw [← wl_set he' hne]; exact hP1) hS1 hl)
theorem z_iald (C : Cx p l s m args meth c D n0 own cc nL) {k n : Nat} {f : Nat → Int32} {i : Int32} (j : Nat) (he : enc D n0 σ k = .inl (D.2.1, n, .inl f)) (hk : k < N) (hij : i = nI j) (hj : j < n) (hn : n < 2 ^ 31) (hd : decode cc pc = .ok (.iaload, 1)) (kk : ZZ p l e R s m args below meth c D n0 N nL cells slots Q σ (pc + 1) ls (.int (f j) :: st)) : ZZ p l e R s m args below meth c D n0 N nL cells slots Q σ pc ls (.int i :: .ref (n0 + k) :: st) := fun H locs lsA hP hS hl => by
  subst hij
  refine va_iald C.1 C.2.1 C.2.2.2.2.2.1 hP k 0 (by rw [wl_get hk, he]) rfl (vp_in_nI hj hn) hd ?_
  rw [nI_clamp (Nat.lt_trans hj hn)]
  exact kk H locs lsA hP hS hl
theorem z_bald (C : Cx p l s m args meth c D n0 own cc nL) {k n : Nat} {f : Nat → Int32} {i : Int32} (j : Nat) (he : enc D n0 σ k = .inl (D.2.2.1, n, .inl f)) (hk : k < N) (hij : i = nI j) (hj : j < n) (hn : n < 2 ^ 31) (hd : decode cc pc = .ok (.baload, 1)) (kk : ZZ p l e R s m args below meth c D n0 N nL cells slots Q σ (pc + 1) ls (.int (f j) :: st)) : ZZ p l e R s m args below meth c D n0 N nL cells slots Q σ pc ls (.int i :: .ref (n0 + k) :: st) := fun H locs lsA hP hS hl => by
  subst hij
  refine va_zald C.1 C.2.1 C.2.2.2.2.2.1 hP k 1 (by rw [wl_get hk, he]) rfl (vp_in_nI hj hn) hd ?_
  rw [nI_clamp (Nat.lt_trans hj hn)]
  exact kk H locs lsA hP hS hl
theorem z_iast (C : Cx p l s m args meth c D n0 own cc nL) {k n : Nat} {f : Nat → Int32} {i x : Int32} (j : Nat) (he : enc D n0 σ k = .inl (D.2.1, n, .inl f)) (he' : enc D n0 σ1 k = .inl (D.2.1, n, .inl (upd f j x))) (hne : ∀ j, j ≠ k → enc D n0 σ1 j = enc D n0 σ j) (hk : k < N) (hij : i = nI j) (hj : j < n) (hn : n < 2 ^ 31) (hd : decode cc pc = .ok (.iastore, 1)) (kk : ZZ p l e R s m args below meth c D n0 N nL cells slots Q σ1 (pc + 1) ls st) : ZZ p l e R s m args below meth c D n0 N nL cells slots Q σ pc ls (.int x :: .int i :: .ref (n0 + k) :: st) := fun H locs lsA hP hS hl => by
  subst hij
  refine va_iast C.1 C.2.1 C.2.2.2.2.2.1 hP wl_D hS k 0 (by rw [wl_get hk, he]) rfl (vp_in_nI hj hn) hd ?_
  rw [nI_clamp (Nat.lt_trans hj hn)]
  exact fun H1 locs1 hP1 hD1 hS1 => kk H1 locs1 lsA (by rw [← wl_set he' hne]; exact hP1) hS1 hl
theorem z_bast (C : Cx p l s m args meth c D n0 own cc nL) {k n : Nat} {f : Nat → Int32} {i x : Int32} (j : Nat) (he : enc D n0 σ k = .inl (D.2.2.1, n, .inl f)) (he' : enc D n0 σ1 k = .inl (D.2.2.1, n, .inl (upd f j x))) (hne : ∀ j, j ≠ k → enc D n0 σ1 j = enc D n0 σ j) (hx : x = 0 ∨ x = 1) (hk : k < N) (hij : i = nI j) (hj : j < n) (hn : n < 2 ^ 31) (hd : decode cc pc = .ok (.bastore, 1)) (kk : ZZ p l e R s m args below meth c D n0 N nL cells slots Q σ1 (pc + 1) ls st) : ZZ p l e R s m args below meth c D n0 N nL cells slots Q σ pc ls (.int x :: .int i :: .ref (n0 + k) :: st) := fun H locs lsA hP hS hl => by
  subst hij
  have hx2 : vp_nar .boolean x = x := by rcases hx with rfl | rfl <;> decide +kernel
  refine va_zast C.1 C.2.1 C.2.2.2.2.2.1 hP wl_D hS k 1 (by rw [wl_get hk, he]) rfl (vp_in_nI hj hn) hd ?_
  rw [nI_clamp (Nat.lt_trans hj hn), hx2]
  exact fun H1 locs1 hP1 hD1 hS1 => kk H1 locs1 lsA (by rw [← wl_set he' hne]; exact hP1) hS1 hl
theorem z_lald (C : Cx p l s m args meth c D n0 own cc nL) {κ μ : KH} {o : Int64} (hN : 126 < N) (hd : decode cc pc = .ok (.laload, 1)) (kk : ZZ p l e R s m args below meth c D n0 N nL cells slots Q (κ, μ, o) (pc + 1) ls (.long o :: st)) : ZZ p l e R s m args below meth c D n0 N nL cells slots Q (κ, μ, o) pc ls (.int 0 :: .ref (n0 + 126) :: st) := fun H locs lsA hP hS hl => va_lald C.1 C.2.1 C.2.2.2.2.2.1 hP 126 3 (f := vp_updL (fun _ => 0) 0 o) (n := 1) (by rw [wl_get hN, enc_126]) rfl (by rw [← nI_0]; exact vp_in_nI (by decide) (by decide)) hd (kk H locs lsA hP hS hl)
theorem z_last (C : Cx p l s m args meth c D n0 own cc nL) {κ μ : KH} {o x : Int64} (hN : 126 < N) (hd : decode cc pc = .ok (.lastore, 1)) (kk : ZZ p l e R s m args below meth c D n0 N nL cells slots Q (κ, μ, x) (pc + 1) ls st) : ZZ p l e R s m args below meth c D n0 N nL cells slots Q (κ, μ, o) pc ls (.long x :: .int 0 :: .ref (n0 + 126) :: st) := fun H locs lsA hP hS hl => by
  refine va_last C.1 C.2.1 C.2.2.2.2.2.1 hP wl_D hS 126 3 (f := vp_updL (fun _ => 0) 0 o) (n := 1) (by rw [wl_get hN, enc_126]) rfl (by rw [← nI_0]; exact vp_in_nI (by decide) (by decide)) hd ?_
  refine fun H1 locs1 hP1 hD1 hS1 => kk H1 locs1 lsA ?_ hS1 hl
  rw [← wl_set (σ := (κ, μ, o)) (σ' := (κ, μ, x)) (k := 126) (x := .inl (D.2.2.2.2, 1, .inr (.inl (vp_updL (vp_updL (fun _ => 0) 0 o) 0 x)))) ?_ (fun j hj => enc_uo hj)]
  · exact hP1
  · rw [enc_126]
    have h3 : vp_updL (vp_updL (fun _ => 0) 0 o) 0 x = vp_updL (fun _ => 0) 0 x := by
      funext j
      unfold vp_updL
      by_cases hj : j = 0
      · rw [if_pos hj, if_pos hj]
      · rw [if_neg hj, if_neg hj, if_neg hj]
    rw [h3]
theorem z_alen (C : Cx p l s m args meth c D n0 own cc nL) {k : Nat} {cA : ClassId} {x : vp_A} {ty : FieldType} {v : Int32} (t0 : Nat) (he : enc D n0 σ k = .inl (cA, x)) (ht : (tyl D)[t0]? = some (cA, ty)) (hk : k < N) (hv : Int32.ofNat x.1 = v) (hd : decode cc pc = .ok (.arraylength, 1)) (kk : ZZ p l e R s m args below meth c D n0 N nL cells slots Q σ (pc + 1) ls (.int v :: st)) : ZZ p l e R s m args below meth c D n0 N nL cells slots Q σ pc ls (.ref (n0 + k) :: st) := fun H locs lsA hP hS hl => va_alen C.1 C.2.1 C.2.2.2.2.2.1 hP k t0 (by rw [wl_get hk, he]) ht hv hd (kk H locs lsA hP hS hl)
theorem z_aldV (C : Cx p l s m args meth c D n0 own cc nL) {b : Nat} {i : Int32} {κ μ : KH} {o : Int64} (j : Nat) (hb : isS b) (hk : b + 1 < N) (hij : i = nI j) (hj : j < 16) (hd : decode cc pc = .ok (.aaload, 1)) (kk : ZZ p l e R s m args below meth c D n0 N nL cells slots Q (κ, μ, o) (pc + 1) ls (.ref (n0 + (b + 2 + 2 * j)) :: st)) : ZZ p l e R s m args below meth c D n0 N nL cells slots Q (κ, μ, o) pc ls (.int i :: .ref (n0 + (b + 1)) :: st) := fun H locs lsA hP hS hl => by
  subst hij
  refine va_aldq C.1 C.2.1 C.2.2.2.2.2.1 hP (b + 1) 2 (by rw [wl_get hk, enc_SV hb]) rfl (vp_in_nI hj (by decide)) hd ?_
  rw [nI_clamp (by omega)]
  exact kk H locs lsA hP hS hl
end ROWS
