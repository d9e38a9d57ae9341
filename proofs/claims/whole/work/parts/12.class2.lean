theorem vNum_in {v : Int32} (h1 : ¬ v < 0) (h2 : ¬ 16 ≤ v) : vNum v = true := by simp [vNum, h1, h2]
def cAdd (κ : KH) (b k : Nat) (z g i j : Int32) : KH := up (up (up (up (up (up κ k 0 1) k 2 z) k 1 g) k 3 i) k 4 j) b 1 (κ b 1 + 1)
theorem fil_o (κ : KH) (d c : Nat) (x : Int32) (h : c ≠ d) : ∀ n, fil κ d x n c = κ c
  | 0 => rfl
  | n + 1 => by
    show up (fil κ d x n) d n x c = _
    rw [up_cell h]; exact fil_o κ d c x h n
theorem cVz_o (κ : KH) {k c : Nat} (h1 : c ≠ k) (h2 : c ≠ k + 1) : cVz κ k c = κ c := by
  unfold cVz
  rw [fil_o _ _ _ _ h2, up_cell h1, up_cell h1, up_cell h1]
def cU1 (κ : KH) (b : Nat) (e : Int32) (a : Nat) : Nat := if κ (b + 2 + 2 * (a / 40) + 1) (a % 40) = e then 1 else 0
set_option maxHeartbeats 4000000 in
set_option maxRecDepth 100000 in
theorem c_X2_slot_n (l : Launch) (D : DD) (n0 : Nat) (κ μ : KH) (o : Int64) (b : Nat) (v : Int32) (hb : isS b) (hv : vNum v = false) : HM l D n0 yX2_slot cX2_slot 2 (some (.object "ThinExtents$Volume")) 0 0 [.ref (n0 + b), .int v] (κ, μ, o) (some (.null)) (κ, μ, o) := by
  refine HM.of (by decide) (by simp [Value.category]) (by simp) (Or.inr (Or.inr ⟨_, _, rfl, rfl, Or.inl rfl⟩)) ?_
  intro pp ee ss mm aa bb me cd Q C K hret
  show ZZ pp l ee (rmk 0 0) ss mm aa bb me cd D n0 127 2 0 0 Q _ 0 [some (.ref (n0 + b)), some (.int v)] []
  refine z_iload_n C rfl dX2_slot_0 ?_
  refine z_if_lt (tgt := 22) C dX2_slot_1 (by decide) (fun h_1 => ?_) (fun h_1 => ?_)
  · skip
    refine z_null C dX2_slot_22 ?_
    exact z_endA (hret _ _ dX2_slot_23) rfl rfl
  · skip
    refine z_iload_n C rfl dX2_slot_4 ?_
    refine z_aload_n C rfl dX2_slot_5 ?_
    refine gf_X2_11 C hb dX2_slot_6 ?_
    refine an_SV C hb dX2_slot_9 ?_
    refine z_icmp_ge (tgt := 22) C dX2_slot_10 (by decide) (fun h_10 => ?_) (fun h_10 => ?_)
    · skip
      refine z_null C dX2_slot_22 ?_
      exact z_endA (hret _ _ dX2_slot_23) rfl rfl
    · exact absurd hv (by rw [vNum_in h_1 h_10]; decide)
set_option maxHeartbeats 4000000 in
set_option maxRecDepth 100000 in
theorem c_X2_slot (l : Launch) (D : DD) (n0 : Nat) (κ μ : KH) (o : Int64) (b v : Nat) (hb : isS b) (hv : v < 16) : HM l D n0 yX2_slot cX2_slot 2 (some (.object "ThinExtents$Volume")) 0 0 [.ref (n0 + b), .int (nI v)] (κ, μ, o) (some (.ref (n0 + (b + 2 + 2 * v)))) (κ, μ, o) := by
  refine HM.of (by decide) (by simp [Value.category]) (by simp) (Or.inr (Or.inr ⟨_, _, rfl, rfl, Or.inr ⟨_, rfl⟩⟩)) ?_
  intro pp ee ss mm aa bb me cd Q C K hret
  show ZZ pp l ee (rmk 0 0) ss mm aa bb me cd D n0 127 2 0 0 Q _ 0 [some (.ref (n0 + b)), some (.int (nI v))] []
  refine z_iload_n C rfl dX2_slot_0 ?_
  refine z_if_lt (tgt := 22) C dX2_slot_1 (by decide) (fun h_1 => ?_) (fun h_1 => ?_)
  · exact absurd h_1 (nI_pos (by omega))
  · skip
    refine z_iload_n C rfl dX2_slot_4 ?_
    refine z_aload_n C rfl dX2_slot_5 ?_
    refine gf_X2_11 C hb dX2_slot_6 ?_
    refine an_SV C hb dX2_slot_9 ?_
    refine z_icmp_ge (tgt := 22) C dX2_slot_10 (by decide) (fun h_10 => ?_) (fun h_10 => ?_)
    · have g_10 := cv_le (a := 16) (b := v) (by omega) (by omega) h_10
      exact absurd g_10 (by omega)
    · have g_10 := cv_nle (a := 16) (b := v) (by omega) (by omega) h_10
      refine z_aload_n C rfl dX2_slot_13 ?_
      refine gf_X2_11 C hb dX2_slot_14 ?_
      refine z_iload_n C rfl dX2_slot_17 ?_
      refine z_aldV C (v) hb (by have := hb; unfold isS at this; omega) rfl (by omega) dX2_slot_18 ?_
      refine z_goto (tgt := 23) C dX2_slot_19 (by decide) ?_
      exact z_endA (hret _ _ dX2_slot_23) rfl rfl
set_option maxHeartbeats 4000000 in
set_option maxRecDepth 100000 in
theorem c_X2_find_n (l : Launch) (D : DD) (n0 : Nat) (κ μ : KH) (o : Int64) (b : Nat) (v : Int32) (hb : isS b) (hv : vNum v = false) : HM l D n0 yX2_find cX2_find 3 (some (.object "ThinExtents$Volume")) 1 21 [.ref (n0 + b), .int v] (κ, μ, o) (some (.null)) (κ, μ, o) := by
  refine HM.of (by decide) (by simp [Value.category]) (by simp) (Or.inr (Or.inr ⟨_, _, rfl, rfl, Or.inl rfl⟩)) ?_
  intro pp ee ss mm aa bb me cd Q C K hret
  show ZZ pp l ee (rmk 1 21) ss mm aa bb me cd D n0 127 3 0 0 Q _ 0 [some (.ref (n0 + b)), some (.int v), none] []
  refine z_aload_n C rfl dX2_find_0 ?_
  refine z_iload_n C rfl dX2_find_1 ?_
  refine z_callV (As := [.int v]) (r := (some (.null))) (σ1 := (κ, μ, o)) (st := []) (st1 := [.null]) C K ok_X2_22 (c_X2_slot_n l D n0 κ μ o b v hb hv) (enc_S hb) (isS_lt hb) rfl rfl ⟨by decide, by decide⟩ ⟨Nat.zero_le _, Nat.zero_le _⟩ (by simp [Value.category]) dX2_find_2 rfl rfl ?_
  refine z_astore_nN (ls' := [some (.ref (n0 + b)), some (.int v), some (.null)]) C (by decide) rfl dX2_find_5 ?_
  refine z_aload_nN C rfl dX2_find_6 ?_
  refine z_ifnullN (tgt := 21) C dX2_find_7 (by decide) ?_
  refine z_null C dX2_find_21 ?_
  exact z_endA (hret _ _ dX2_find_22) rfl rfl
set_option maxHeartbeats 4000000 in
set_option maxRecDepth 100000 in
theorem c_X2_find_m (l : Launch) (D : DD) (n0 : Nat) (κ μ : KH) (o : Int64) (b v : Nat) (hb : isS b) (hv : v < 16) (h0 : κ (b + 2 + 2 * v) 0 = 0) : HM l D n0 yX2_find cX2_find 3 (some (.object "ThinExtents$Volume")) 1 21 [.ref (n0 + b), .int (nI v)] (κ, μ, o) (some (.null)) (κ, μ, o) := by
  refine HM.of (by decide) (by simp [Value.category]) (by simp) (Or.inr (Or.inr ⟨_, _, rfl, rfl, Or.inl rfl⟩)) ?_
  intro pp ee ss mm aa bb me cd Q C K hret
  show ZZ pp l ee (rmk 1 21) ss mm aa bb me cd D n0 127 3 0 0 Q _ 0 [some (.ref (n0 + b)), some (.int (nI v)), none] []
  refine z_aload_n C rfl dX2_find_0 ?_
  refine z_iload_n C rfl dX2_find_1 ?_
  refine z_callV (As := [.int (nI v)]) (r := (some (.ref (n0 + (b + 2 + 2 * v))))) (σ1 := (κ, μ, o)) (st := []) (st1 := [.ref (n0 + (b + 2 + 2 * v))]) C K ok_X2_22 (c_X2_slot l D n0 κ μ o b v hb (by omega)) (enc_S hb) (isS_lt hb) rfl rfl ⟨by decide, by decide⟩ ⟨Nat.zero_le _, Nat.zero_le _⟩ (by simp [Value.category]) dX2_find_2 rfl rfl ?_
  refine z_astore_n (ls' := [some (.ref (n0 + b)), some (.int (nI v)), some (.ref (n0 + (b + 2 + 2 * v)))]) C (by decide) rfl dX2_find_5 ?_
  refine z_aload_n C rfl dX2_find_6 ?_
  refine z_ifnull C dX2_find_7 ?_
  refine z_aload_n C rfl dX2_find_10 ?_
  refine gf_X2_26 (v := 0) C (isV_of hb hv) h0 dX2_find_11 ?_
  refine z_if_eq (tgt := 21) C dX2_find_14 (by decide) (fun h_14 => ?_) (fun h_14 => ?_)
  · skip
    refine z_null C dX2_find_21 ?_
    exact z_endA (hret _ _ dX2_find_22) rfl rfl
  · exact absurd h_14 (by decide +kernel)
set_option maxHeartbeats 4000000 in
set_option maxRecDepth 100000 in
theorem c_X2_find (l : Launch) (D : DD) (n0 : Nat) (κ μ : KH) (o : Int64) (b v : Nat) (hb : isS b) (hv : v < 16) (h0 : κ (b + 2 + 2 * v) 0 ≠ 0) : HM l D n0 yX2_find cX2_find 3 (some (.object "ThinExtents$Volume")) 1 21 [.ref (n0 + b), .int (nI v)] (κ, μ, o) (some (.ref (n0 + (b + 2 + 2 * v)))) (κ, μ, o) := by
  refine HM.of (by decide) (by simp [Value.category]) (by simp) (Or.inr (Or.inr ⟨_, _, rfl, rfl, Or.inr ⟨_, rfl⟩⟩)) ?_
  intro pp ee ss mm aa bb me cd Q C K hret
  show ZZ pp l ee (rmk 1 21) ss mm aa bb me cd D n0 127 3 0 0 Q _ 0 [some (.ref (n0 + b)), some (.int (nI v)), none] []
  refine z_aload_n C rfl dX2_find_0 ?_
  refine z_iload_n C rfl dX2_find_1 ?_
  refine z_callV (As := [.int (nI v)]) (r := (some (.ref (n0 + (b + 2 + 2 * v))))) (σ1 := (κ, μ, o)) (st := []) (st1 := [.ref (n0 + (b + 2 + 2 * v))]) C K ok_X2_22 (c_X2_slot l D n0 κ μ o b v hb (by omega)) (enc_S hb) (isS_lt hb) rfl rfl ⟨by decide, by decide⟩ ⟨Nat.zero_le _, Nat.zero_le _⟩ (by simp [Value.category]) dX2_find_2 rfl rfl ?_
  refine z_astore_n (ls' := [some (.ref (n0 + b)), some (.int (nI v)), some (.ref (n0 + (b + 2 + 2 * v)))]) C (by decide) rfl dX2_find_5 ?_
  refine z_aload_n C rfl dX2_find_6 ?_
  refine z_ifnull C dX2_find_7 ?_
  refine z_aload_n C rfl dX2_find_10 ?_
  refine gf_X2_26 (v := κ ((b + 2 + 2 * v)) 0) C (isV_of hb hv) rfl dX2_find_11 ?_
  refine z_if_eq (tgt := 21) C dX2_find_14 (by decide) (fun h_14 => ?_) (fun h_14 => ?_)
  · exact absurd h_14 h0
  · skip
    refine z_aload_n C rfl dX2_find_17 ?_
    refine z_goto (tgt := 22) C dX2_find_18 (by decide) ?_
    exact z_endA (hret _ _ dX2_find_22) rfl rfl
set_option maxHeartbeats 4000000 in
set_option maxRecDepth 100000 in
theorem c_X2_add (l : Launch) (D : DD) (n0 : Nat) (κ μ : KH) (o : Int64) (b k : Nat) (z g i j : Int32) (hb : isS b) (hk : isV k) (hg : g = 0 ∨ g = 1) : HM l D n0 yX2_add cX2_add 6 none 0 0 [.ref (n0 + b), .ref (n0 + k), .int z, .int g, .int i, .int j] (κ, μ, o) none (cAdd κ b k z g i j, μ, o) := by
  refine HM.of (by decide) (by simp [Value.category]) (by simp) (Or.inl ⟨rfl, rfl⟩) ?_
  intro pp ee ss mm aa bb me cd Q C K hret
  show ZZ pp l ee (rmk 0 0) ss mm aa bb me cd D n0 127 6 0 0 Q _ 0 [some (.ref (n0 + b)), some (.ref (n0 + k)), some (.int z), some (.int g), some (.int i), some (.int j)] []
  refine z_aload_n C rfl dX2_add_0 ?_
  refine z_iconst (v := 1) C (by decide +kernel) dX2_add_1 ?_
  refine pf_X2_26 (x := 1) C hk (Or.inr rfl) dX2_add_2 ?_
  refine z_aload_n C rfl dX2_add_5 ?_
  refine z_iload_n C rfl dX2_add_6 ?_
  refine pf_X2_30 (x := z) C hk dX2_add_7 ?_
  refine z_aload_n C rfl dX2_add_10 ?_
  refine z_iload_n C rfl dX2_add_11 ?_
  refine pf_X2_34 (x := g) C hk hg dX2_add_12 ?_
  refine z_aload_n C rfl dX2_add_15 ?_
  refine z_iload C rfl dX2_add_16 ?_
  refine pf_X2_37 (x := i) C hk dX2_add_18 ?_
  refine z_aload_n C rfl dX2_add_21 ?_
  refine z_iload C rfl dX2_add_22 ?_
  refine pf_X2_40 (x := j) C hk dX2_add_24 ?_
  refine z_aload_n C rfl dX2_add_27 ?_
  refine z_dup C rfl dX2_add_28 ?_
  refine gf_X2_43 (v := κ b 1) C hb (show _ = κ b 1 by simp [up, (isS_V hb hk).2.2.1]) dX2_add_29 ?_
  refine z_iconst (v := 1) C (by decide +kernel) dX2_add_32 ?_
  refine z_iadd (v := (κ b 1) + 1) C rfl dX2_add_33 ?_
  refine pf_X2_43 (x := (κ b 1) + 1) C hb dX2_add_34 ?_
  exact z_endV (hret _ _ dX2_add_37) rfl
set_option maxHeartbeats 4000000 in
set_option maxRecDepth 100000 in
theorem c_X2_remove (l : Launch) (D : DD) (n0 : Nat) (κ μ : KH) (o : Int64) (b k : Nat) (hb : isS b) (hk : isV k) : HM l D n0 yX2_remove cX2_remove 2 none 2 43 [.ref (n0 + b), .ref (n0 + k)] (κ, μ, o) none (up (cVz κ k) b 1 (κ b 1 - 1), μ, o) := by
  refine HM.of (by decide) (by simp [Value.category]) (by simp) (Or.inl ⟨rfl, rfl⟩) ?_
  intro pp ee ss mm aa bb me cd Q C K hret
  show ZZ pp l ee (rmk 2 43) ss mm aa bb me cd D n0 127 2 0 0 Q _ 0 [some (.ref (n0 + b)), some (.ref (n0 + k))] []
  refine z_aload_n C rfl dX2_remove_0 ?_
  refine z_callV (As := []) (r := none) (σ1 := (cVz κ k, μ, o)) (st := []) (st1 := []) C K ok_X2_46 (c_X3_clear l D n0 κ μ o k hk) (enc_V hk) (isV_lt hk) rfl rfl ⟨by decide, by decide⟩ ⟨Nat.zero_le _, Nat.zero_le _⟩ (by simp [Value.category]) dX2_remove_1 rfl rfl ?_
  refine z_aload_n C rfl dX2_remove_4 ?_
  refine z_dup C rfl dX2_remove_5 ?_
  refine gf_X2_43 (v := κ b 1) C hb (congrFun (cVz_o κ (isS_V hb hk).2.2.1 (isS_V hb hk).2.2.2.1) 1) dX2_remove_6 ?_
  refine z_iconst (v := 1) C (by decide +kernel) dX2_remove_9 ?_
  refine z_isub (v := (κ b 1) - 1) C rfl dX2_remove_10 ?_
  refine pf_X2_43 (x := (κ b 1) - 1) C hb dX2_remove_11 ?_
  exact z_endV (hret _ _ dX2_remove_14) rfl
set_option maxHeartbeats 4000000 in
set_option maxRecDepth 100000 in
theorem c_X2_usesOf_n (l : Launch) (D : DD) (n0 : Nat) (κ μ : KH) (o : Int64) (b : Nat) (hb : isS b) : HM l D n0 yX2_usesOf cX2_usesOf 2 (some .int) 0 0 [.ref (n0 + b), .int ((-1))] (κ, μ, o) (some (.int 0)) (κ, μ, o) := by
  refine HM.of (by decide) (by simp [Value.category]) (by simp) (Or.inr (Or.inl ⟨_, .int, rfl, rfl, rfl⟩)) ?_
  intro pp ee ss mm aa bb me cd Q C K hret
  show ZZ pp l ee (rmk 0 0) ss mm aa bb me cd D n0 127 2 0 0 Q _ 0 [some (.ref (n0 + b)), some (.int ((-1)))] []
  refine z_iload_n C rfl dX2_usesOf_0 ?_
  refine z_if_lt (tgt := 22) C dX2_usesOf_1 (by decide) (fun h_1 => ?_) (fun h_1 => ?_)
  · skip
    refine z_iconst (v := 0) C (by decide +kernel) dX2_usesOf_22 ?_
    exact z_endI (hret _ _ dX2_usesOf_23) rfl rfl
  · exact absurd h_1 (by decide +kernel)
set_option maxHeartbeats 4000000 in
set_option maxRecDepth 100000 in
theorem c_X2_usesOf (l : Launch) (D : DD) (n0 : Nat) (κ μ : KH) (o : Int64) (b a : Nat) (x : Int32) (hb : isS b) (ha : a < 96) (hx : κ (b + 34) a = x) : HM l D n0 yX2_usesOf cX2_usesOf 2 (some .int) 0 0 [.ref (n0 + b), .int (nI a)] (κ, μ, o) (some (.int x)) (κ, μ, o) := by
  refine HM.of (by decide) (by simp [Value.category]) (by simp) (Or.inr (Or.inl ⟨_, .int, rfl, rfl, rfl⟩)) ?_
  intro pp ee ss mm aa bb me cd Q C K hret
  show ZZ pp l ee (rmk 0 0) ss mm aa bb me cd D n0 127 2 0 0 Q _ 0 [some (.ref (n0 + b)), some (.int (nI a))] []
  refine z_iload_n C rfl dX2_usesOf_0 ?_
  refine z_if_lt (tgt := 22) C dX2_usesOf_1 (by decide) (fun h_1 => ?_) (fun h_1 => ?_)
  · exact absurd h_1 (nI_pos (by omega))
  · skip
    refine z_iload_n C rfl dX2_usesOf_4 ?_
    refine z_aload_n C rfl dX2_usesOf_5 ?_
    refine gf_X2_18 C hb dX2_usesOf_6 ?_
    refine an_U C hb dX2_usesOf_9 ?_
    refine z_icmp_ge (tgt := 22) C dX2_usesOf_10 (by decide) (fun h_10 => ?_) (fun h_10 => ?_)
    · have g_10 := cv_le (a := 96) (b := a) (by omega) (by omega) h_10
      exact absurd g_10 (by omega)
    · have g_10 := cv_nle (a := 96) (b := a) (by omega) (by omega) h_10
      refine z_aload_n C rfl dX2_usesOf_13 ?_
      refine gf_X2_18 C hb dX2_usesOf_14 ?_
      refine z_iload_n C rfl dX2_usesOf_17 ?_
      refine al_U (v := x) C hb (a) rfl (by omega) hx dX2_usesOf_18 ?_
      refine z_goto (tgt := 23) C dX2_usesOf_19 (by decide) ?_
      exact z_endI (hret _ _ dX2_usesOf_23) rfl rfl
set_option maxHeartbeats 4000000 in
set_option maxRecDepth 100000 in
theorem c_X2_setExtent (l : Launch) (D : DD) (n0 : Nat) (κ μ : KH) (o : Int64) (b k q : Nat) (e : Int32) (hb : isS b) (hk : isV k) (hq : q < 40) (hX : isX (κ (k + 1) q)) (hE : isX e) : HM l D n0 yX2_setExtent cX2_setExtent 5 none 1 22 [.ref (n0 + b), .ref (n0 + k), .int (nI q), .int e] (κ, μ, o) none (cSet κ b k q e, μ, o) := by
  refine HM.of (by decide) (by simp [Value.category]) (by simp) (Or.inl ⟨rfl, rfl⟩) ?_
  intro pp ee ss mm aa bb me cd Q C K hret
  show ZZ pp l ee (rmk 1 22) ss mm aa bb me cd D n0 127 5 0 0 Q _ 0 [some (.ref (n0 + b)), some (.ref (n0 + k)), some (.int (nI q)), some (.int e), none] []
  have hne := (isS_V hb hk).1
  have hne2 := (isS_V hb hk).2.1
  rcases hE with rfl | ⟨c, hc, rfl⟩
  · skip
    refine z_aload_n C rfl dX2_setExtent_0 ?_
    rcases hX with hm | ⟨a, ha, hm⟩
    · skip
      refine z_iload_n C rfl dX2_setExtent_1 ?_
      refine z_callV (As := [.int (nI q)]) (r := (some (.int ((-1))))) (σ1 := (κ, μ, o)) (st := []) (st1 := [.int ((-1))]) C K ok_X2_49 (c_X3_extentOf l D n0 κ μ o k q ((-1)) hk (by omega) hm) (enc_V hk) (isV_lt hk) rfl rfl ⟨by decide, by decide⟩ ⟨Nat.zero_le _, Nat.zero_le _⟩ (by simp [Value.category]) dX2_setExtent_2 rfl rfl ?_
      refine z_istore (ls' := [some (.ref (n0 + b)), some (.ref (n0 + k)), some (.int (nI q)), some (.int ((-1))), some (.int ((-1)))]) C (by decide) rfl dX2_setExtent_5 ?_
      refine z_iload C rfl dX2_setExtent_7 ?_
      refine z_if_lt (tgt := 43) C dX2_setExtent_9 (by decide) (fun h_9 => ?_) (fun h_9 => ?_)
      · skip
        refine z_iload_n C rfl dX2_setExtent_43 ?_
        refine z_if_lt (tgt := 76) C dX2_setExtent_44 (by decide) (fun h_44 => ?_) (fun h_44 => ?_)
        · skip
          refine z_aload_n C rfl dX2_setExtent_76 ?_
          refine z_iload_n C rfl dX2_setExtent_77 ?_
          refine z_iload_n C rfl dX2_setExtent_78 ?_
          refine z_callV (As := [.int (nI q), .int ((-1))]) (r := none) (σ1 := (up κ (k + 1) q ((-1)), μ, o)) (st := []) (st1 := []) C K ok_X2_56 (c_X3_setExtent l D n0 κ μ o k q ((-1)) hk (by omega)) (enc_V hk) (isV_lt hk) rfl rfl ⟨by decide, by decide⟩ ⟨Nat.zero_le _, Nat.zero_le _⟩ (by simp [Value.category]) dX2_setExtent_79 rfl rfl ?_
          exact z_endV (hret _ _ dX2_setExtent_82) (st_k (by unfold cSet; rw [hm, cDec_m, cInc_m]))
        · exact absurd h_44 (by decide +kernel)
      · exact absurd h_9 (by decide +kernel)
    · skip
      refine z_iload_n C rfl dX2_setExtent_1 ?_
      refine z_callV (As := [.int (nI q)]) (r := (some (.int (nI a)))) (σ1 := (κ, μ, o)) (st := []) (st1 := [.int (nI a)]) C K ok_X2_49 (c_X3_extentOf l D n0 κ μ o k q (nI a) hk (by omega) hm) (enc_V hk) (isV_lt hk) rfl rfl ⟨by decide, by decide⟩ ⟨Nat.zero_le _, Nat.zero_le _⟩ (by simp [Value.category]) dX2_setExtent_2 rfl rfl ?_
      refine z_istore (ls' := [some (.ref (n0 + b)), some (.ref (n0 + k)), some (.int (nI q)), some (.int ((-1))), some (.int (nI a))]) C (by decide) rfl dX2_setExtent_5 ?_
      refine z_iload C rfl dX2_setExtent_7 ?_
      refine z_if_lt (tgt := 43) C dX2_setExtent_9 (by decide) (fun h_9 => ?_) (fun h_9 => ?_)
      · exact absurd h_9 (nI_pos (by omega))
      · skip
        refine z_iload C rfl dX2_setExtent_12 ?_
        refine z_aload_n C rfl dX2_setExtent_14 ?_
        refine gf_X2_18 C hb dX2_setExtent_15 ?_
        refine an_U C hb dX2_setExtent_18 ?_
        refine z_icmp_ge (tgt := 43) C dX2_setExtent_19 (by decide) (fun h_19 => ?_) (fun h_19 => ?_)
        · have g_19 := cv_le (a := 96) (b := a) (by omega) (by omega) h_19
          exact absurd g_19 (by omega)
        · have g_19 := cv_nle (a := 96) (b := a) (by omega) (by omega) h_19
          refine z_aload_n C rfl dX2_setExtent_22 ?_
          refine gf_X2_18 C hb dX2_setExtent_23 ?_
          refine z_iload C rfl dX2_setExtent_26 ?_
          refine z_dup2 C rfl rfl dX2_setExtent_28 ?_
          refine al_U (v := κ (b + 34) a) C hb (a) rfl (by omega) rfl dX2_setExtent_29 ?_
          refine z_iconst (v := 1) C (by decide +kernel) dX2_setExtent_30 ?_
          refine z_isub (v := (κ (b + 34) a) - 1) C rfl dX2_setExtent_31 ?_
          refine as_U (x := (κ (b + 34) a) - 1) C hb (a) rfl (by omega) dX2_setExtent_32 ?_
          refine z_aload_n C rfl dX2_setExtent_33 ?_
          refine z_dup C rfl dX2_setExtent_34 ?_
          refine gf_X2_53 (v := κ k 5) C hk (congrFun (up_cell (Ne.symm hne)) 5) dX2_setExtent_35 ?_
          refine z_iconst (v := 1) C (by decide +kernel) dX2_setExtent_38 ?_
          refine z_isub (v := (κ k 5) - 1) C rfl dX2_setExtent_39 ?_
          refine pf_X2_53 (x := (κ k 5) - 1) C hk dX2_setExtent_40 ?_
          refine z_iload_n C rfl dX2_setExtent_43 ?_
          refine z_if_lt (tgt := 76) C dX2_setExtent_44 (by decide) (fun h_44 => ?_) (fun h_44 => ?_)
          · skip
            refine z_aload_n C rfl dX2_setExtent_76 ?_
            refine z_iload_n C rfl dX2_setExtent_77 ?_
            refine z_iload_n C rfl dX2_setExtent_78 ?_
            refine z_callV (As := [.int (nI q), .int ((-1))]) (r := none) (σ1 := (up (up (up κ (b + 34) a ((κ (b + 34) a) - 1)) k 5 ((κ k 5) - 1)) (k + 1) q ((-1)), μ, o)) (st := []) (st1 := []) C K ok_X2_56 (c_X3_setExtent l D n0 (up (up κ (b + 34) a ((κ (b + 34) a) - 1)) k 5 ((κ k 5) - 1)) μ o k q ((-1)) hk (by omega)) (enc_V hk) (isV_lt hk) rfl rfl ⟨by decide, by decide⟩ ⟨Nat.zero_le _, Nat.zero_le _⟩ (by simp [Value.category]) dX2_setExtent_79 rfl rfl ?_
            exact z_endV (hret _ _ dX2_setExtent_82) (st_k (by unfold cSet; rw [hm, cDec_n ha, cInc_m]))
          · exact absurd h_44 (by decide +kernel)
  · skip
    refine z_aload_n C rfl dX2_setExtent_0 ?_
    rcases hX with hm | ⟨a, ha, hm⟩
    · skip
      refine z_iload_n C rfl dX2_setExtent_1 ?_
      refine z_callV (As := [.int (nI q)]) (r := (some (.int ((-1))))) (σ1 := (κ, μ, o)) (st := []) (st1 := [.int ((-1))]) C K ok_X2_49 (c_X3_extentOf l D n0 κ μ o k q ((-1)) hk (by omega) hm) (enc_V hk) (isV_lt hk) rfl rfl ⟨by decide, by decide⟩ ⟨Nat.zero_le _, Nat.zero_le _⟩ (by simp [Value.category]) dX2_setExtent_2 rfl rfl ?_
      refine z_istore (ls' := [some (.ref (n0 + b)), some (.ref (n0 + k)), some (.int (nI q)), some (.int (nI c)), some (.int ((-1)))]) C (by decide) rfl dX2_setExtent_5 ?_
      refine z_iload C rfl dX2_setExtent_7 ?_
      refine z_if_lt (tgt := 43) C dX2_setExtent_9 (by decide) (fun h_9 => ?_) (fun h_9 => ?_)
      · skip
        refine z_iload_n C rfl dX2_setExtent_43 ?_
        refine z_if_lt (tgt := 76) C dX2_setExtent_44 (by decide) (fun h_44 => ?_) (fun h_44 => ?_)
        · exact absurd h_44 (nI_pos (by omega))
        · skip
          refine z_iload_n C rfl dX2_setExtent_47 ?_
          refine z_aload_n C rfl dX2_setExtent_48 ?_
          refine gf_X2_18 C hb dX2_setExtent_49 ?_
          refine an_U C hb dX2_setExtent_52 ?_
          refine z_icmp_ge (tgt := 76) C dX2_setExtent_53 (by decide) (fun h_53 => ?_) (fun h_53 => ?_)
          · have g_53 := cv_le (a := 96) (b := c) (by omega) (by omega) h_53
            exact absurd g_53 (by omega)
          · have g_53 := cv_nle (a := 96) (b := c) (by omega) (by omega) h_53
            refine z_aload_n C rfl dX2_setExtent_56 ?_
            refine gf_X2_18 C hb dX2_setExtent_57 ?_
            refine z_iload_n C rfl dX2_setExtent_60 ?_
            refine z_dup2 C rfl rfl dX2_setExtent_61 ?_
            refine al_U (v := κ (b + 34) c) C hb (c) rfl (by omega) rfl dX2_setExtent_62 ?_
            refine z_iconst (v := 1) C (by decide +kernel) dX2_setExtent_63 ?_
            refine z_iadd (v := (κ (b + 34) c) + 1) C rfl dX2_setExtent_64 ?_
            refine as_U (x := (κ (b + 34) c) + 1) C hb (c) rfl (by omega) dX2_setExtent_65 ?_
            refine z_aload_n C rfl dX2_setExtent_66 ?_
            refine z_dup C rfl dX2_setExtent_67 ?_
            refine gf_X2_53 (v := κ k 5) C hk (congrFun (up_cell (Ne.symm hne)) 5) dX2_setExtent_68 ?_
            refine z_iconst (v := 1) C (by decide +kernel) dX2_setExtent_71 ?_
            refine z_iadd (v := (κ k 5) + 1) C rfl dX2_setExtent_72 ?_
            refine pf_X2_53 (x := (κ k 5) + 1) C hk dX2_setExtent_73 ?_
            refine z_aload_n C rfl dX2_setExtent_76 ?_
            refine z_iload_n C rfl dX2_setExtent_77 ?_
            refine z_iload_n C rfl dX2_setExtent_78 ?_
            refine z_callV (As := [.int (nI q), .int (nI c)]) (r := none) (σ1 := (up (up (up κ (b + 34) c ((κ (b + 34) c) + 1)) k 5 ((κ k 5) + 1)) (k + 1) q (nI c), μ, o)) (st := []) (st1 := []) C K ok_X2_56 (c_X3_setExtent l D n0 (up (up κ (b + 34) c ((κ (b + 34) c) + 1)) k 5 ((κ k 5) + 1)) μ o k q (nI c) hk (by omega)) (enc_V hk) (isV_lt hk) rfl rfl ⟨by decide, by decide⟩ ⟨Nat.zero_le _, Nat.zero_le _⟩ (by simp [Value.category]) dX2_setExtent_79 rfl rfl ?_
            exact z_endV (hret _ _ dX2_setExtent_82) (st_k (by unfold cSet; rw [hm, cDec_m, cInc_n hc]))
      · exact absurd h_9 (by decide +kernel)
    · skip
      refine z_iload_n C rfl dX2_setExtent_1 ?_
      refine z_callV (As := [.int (nI q)]) (r := (some (.int (nI a)))) (σ1 := (κ, μ, o)) (st := []) (st1 := [.int (nI a)]) C K ok_X2_49 (c_X3_extentOf l D n0 κ μ o k q (nI a) hk (by omega) hm) (enc_V hk) (isV_lt hk) rfl rfl ⟨by decide, by decide⟩ ⟨Nat.zero_le _, Nat.zero_le _⟩ (by simp [Value.category]) dX2_setExtent_2 rfl rfl ?_
      refine z_istore (ls' := [some (.ref (n0 + b)), some (.ref (n0 + k)), some (.int (nI q)), some (.int (nI c)), some (.int (nI a))]) C (by decide) rfl dX2_setExtent_5 ?_
      refine z_iload C rfl dX2_setExtent_7 ?_
      refine z_if_lt (tgt := 43) C dX2_setExtent_9 (by decide) (fun h_9 => ?_) (fun h_9 => ?_)
      · exact absurd h_9 (nI_pos (by omega))
      · skip
        refine z_iload C rfl dX2_setExtent_12 ?_
        refine z_aload_n C rfl dX2_setExtent_14 ?_
        refine gf_X2_18 C hb dX2_setExtent_15 ?_
        refine an_U C hb dX2_setExtent_18 ?_
        refine z_icmp_ge (tgt := 43) C dX2_setExtent_19 (by decide) (fun h_19 => ?_) (fun h_19 => ?_)
        · have g_19 := cv_le (a := 96) (b := a) (by omega) (by omega) h_19
          exact absurd g_19 (by omega)
        · have g_19 := cv_nle (a := 96) (b := a) (by omega) (by omega) h_19
          refine z_aload_n C rfl dX2_setExtent_22 ?_
          refine gf_X2_18 C hb dX2_setExtent_23 ?_
          refine z_iload C rfl dX2_setExtent_26 ?_
          refine z_dup2 C rfl rfl dX2_setExtent_28 ?_
          refine al_U (v := κ (b + 34) a) C hb (a) rfl (by omega) rfl dX2_setExtent_29 ?_
          refine z_iconst (v := 1) C (by decide +kernel) dX2_setExtent_30 ?_
          refine z_isub (v := (κ (b + 34) a) - 1) C rfl dX2_setExtent_31 ?_
          refine as_U (x := (κ (b + 34) a) - 1) C hb (a) rfl (by omega) dX2_setExtent_32 ?_
          refine z_aload_n C rfl dX2_setExtent_33 ?_
          refine z_dup C rfl dX2_setExtent_34 ?_
          refine gf_X2_53 (v := κ k 5) C hk (congrFun (up_cell (Ne.symm hne)) 5) dX2_setExtent_35 ?_
          refine z_iconst (v := 1) C (by decide +kernel) dX2_setExtent_38 ?_
          refine z_isub (v := (κ k 5) - 1) C rfl dX2_setExtent_39 ?_
          refine pf_X2_53 (x := (κ k 5) - 1) C hk dX2_setExtent_40 ?_
          refine z_iload_n C rfl dX2_setExtent_43 ?_
          refine z_if_lt (tgt := 76) C dX2_setExtent_44 (by decide) (fun h_44 => ?_) (fun h_44 => ?_)
          · exact absurd h_44 (nI_pos (by omega))
          · skip
            refine z_iload_n C rfl dX2_setExtent_47 ?_
            refine z_aload_n C rfl dX2_setExtent_48 ?_
            refine gf_X2_18 C hb dX2_setExtent_49 ?_
            refine an_U C hb dX2_setExtent_52 ?_
            refine z_icmp_ge (tgt := 76) C dX2_setExtent_53 (by decide) (fun h_53 => ?_) (fun h_53 => ?_)
            · have g_53 := cv_le (a := 96) (b := c) (by omega) (by omega) h_53
              exact absurd g_53 (by omega)
            · have g_53 := cv_nle (a := 96) (b := c) (by omega) (by omega) h_53
              refine z_aload_n C rfl dX2_setExtent_56 ?_
              refine gf_X2_18 C hb dX2_setExtent_57 ?_
              refine z_iload_n C rfl dX2_setExtent_60 ?_
              refine z_dup2 C rfl rfl dX2_setExtent_61 ?_
              refine al_U (v := (up (up κ (b + 34) a ((κ (b + 34) a) - 1)) k 5 ((κ k 5) - 1)) (b + 34) c) C hb (c) rfl (by omega) rfl dX2_setExtent_62 ?_
              refine z_iconst (v := 1) C (by decide +kernel) dX2_setExtent_63 ?_
              refine z_iadd (v := ((up (up κ (b + 34) a ((κ (b + 34) a) - 1)) k 5 ((κ k 5) - 1)) (b + 34) c) + 1) C rfl dX2_setExtent_64 ?_
              refine as_U (x := ((up (up κ (b + 34) a ((κ (b + 34) a) - 1)) k 5 ((κ k 5) - 1)) (b + 34) c) + 1) C hb (c) rfl (by omega) dX2_setExtent_65 ?_
              refine z_aload_n C rfl dX2_setExtent_66 ?_
              refine z_dup C rfl dX2_setExtent_67 ?_
              refine gf_X2_53 (v := (up (up κ (b + 34) a ((κ (b + 34) a) - 1)) k 5 ((κ k 5) - 1)) k 5) C hk (congrFun (up_cell (Ne.symm hne)) 5) dX2_setExtent_68 ?_
              refine z_iconst (v := 1) C (by decide +kernel) dX2_setExtent_71 ?_
              refine z_iadd (v := ((up (up κ (b + 34) a ((κ (b + 34) a) - 1)) k 5 ((κ k 5) - 1)) k 5) + 1) C rfl dX2_setExtent_72 ?_
              refine pf_X2_53 (x := ((up (up κ (b + 34) a ((κ (b + 34) a) - 1)) k 5 ((κ k 5) - 1)) k 5) + 1) C hk dX2_setExtent_73 ?_
              refine z_aload_n C rfl dX2_setExtent_76 ?_
              refine z_iload_n C rfl dX2_setExtent_77 ?_
              refine z_iload_n C rfl dX2_setExtent_78 ?_
              refine z_callV (As := [.int (nI q), .int (nI c)]) (r := none) (σ1 := (up (up (up (up (up κ (b + 34) a ((κ (b + 34) a) - 1)) k 5 ((κ k 5) - 1)) (b + 34) c (((up (up κ (b + 34) a ((κ (b + 34) a) - 1)) k 5 ((κ k 5) - 1)) (b + 34) c) + 1)) k 5 (((up (up κ (b + 34) a ((κ (b + 34) a) - 1)) k 5 ((κ k 5) - 1)) k 5) + 1)) (k + 1) q (nI c), μ, o)) (st := []) (st1 := []) C K ok_X2_56 (c_X3_setExtent l D n0 (up (up (up (up κ (b + 34) a ((κ (b + 34) a) - 1)) k 5 ((κ k 5) - 1)) (b + 34) c (((up (up κ (b + 34) a ((κ (b + 34) a) - 1)) k 5 ((κ k 5) - 1)) (b + 34) c) + 1)) k 5 (((up (up κ (b + 34) a ((κ (b + 34) a) - 1)) k 5 ((κ k 5) - 1)) k 5) + 1)) μ o k q (nI c) hk (by omega)) (enc_V hk) (isV_lt hk) rfl rfl ⟨by decide, by decide⟩ ⟨Nat.zero_le _, Nat.zero_le _⟩ (by simp [Value.category]) dX2_setExtent_79 rfl rfl ?_
              exact z_endV (hret _ _ dX2_setExtent_82) (st_k (by unfold cSet; rw [hm, cDec_n ha, cInc_n hc]))
set_option maxHeartbeats 4000000 in
set_option maxRecDepth 100000 in
theorem c_X2_unmap (l : Launch) (D : DD) (n0 : Nat) (κ μ : KH) (o : Int64) (b k a c : Nat) (hb : isS b) (hk : isV k) (hc : c ≤ 40) (ha : a ≤ 40) (hX : ∀ q, isX (κ (k + 1) q)) : HM l D n0 yX2_unmap cX2_unmap 6 (some .int) 2 46 [.ref (n0 + b), .ref (n0 + k), .int (nI a), .int (nI c)] (κ, μ, o) (some (.int (κ k 5 - cUm κ b k a c k 5))) (cUm κ b k a c, μ, o) := by
  refine HM.of (by decide) (by simp [Value.category]) (by simp) (Or.inr (Or.inl ⟨_, .int, rfl, rfl, rfl⟩)) ?_
  intro pp ee ss mm aa bb me cd Q C K hret
  show ZZ pp l ee (rmk 2 46) ss mm aa bb me cd D n0 127 6 0 0 Q _ 0 [some (.ref (n0 + b)), some (.ref (n0 + k)), some (.int (nI a)), some (.int (nI c)), none, none] []
  refine z_aload_n C rfl dX2_unmap_0 ?_
  refine gf_X2_53 (v := κ k 5) C hk rfl dX2_unmap_1 ?_
  refine z_istore (ls' := [some (.ref (n0 + b)), some (.ref (n0 + k)), some (.int (nI a)), some (.int (nI c)), some (.int (κ k 5)), none]) C (by decide) rfl dX2_unmap_4 ?_
  refine z_iload_n C rfl dX2_unmap_6 ?_
  refine z_istore (ls' := [some (.ref (n0 + b)), some (.ref (n0 + k)), some (.int (nI a)), some (.int (nI c)), some (.int (κ k 5)), some (.int (nI a))]) C (by decide) rfl dX2_unmap_7 ?_
  refine z_cast (σ1 := (iterK (fun j m => cSet m b k (a + j) (-1)) 0 κ, μ, o)) (ls' := [some (.ref (n0 + b)), some (.ref (n0 + k)), some (.int (nI a)), some (.int (nI c)), some (.int (κ k 5)), some (.int (nI (a + 0)))]) (st' := []) (z_for (P := fun i => ZZ pp l ee (rmk 2 46) ss mm aa bb me cd D n0 127 6 0 0 Q (iterK (fun j m => cSet m b k (a + j) (-1)) i κ, μ, o) 9 [some (.ref (n0 + b)), some (.ref (n0 + k)), some (.int (nI a)), some (.int (nI c)), some (.int (κ k 5)), some (.int (nI (a + i)))] []) (c - a) ?_ ?_ 0 (Nat.zero_le _)) rfl ⟨rfl, rfl, rfl, rfl, rfl, (so_int rfl), trivial⟩ rfl
  · skip
    refine z_iload C rfl dX2_unmap_9 ?_
    refine z_iload_n C rfl dX2_unmap_11 ?_
    refine z_icmp_ge (tgt := 29) C dX2_unmap_12 (by decide) (fun h_12 => ?_) (fun h_12 => ?_)
    · have g_12 := cv_le (a := c) (b := a + (c - a)) (by omega) (by omega) h_12
      refine z_iload C rfl dX2_unmap_29 ?_
      refine z_aload_n C rfl dX2_unmap_31 ?_
      refine gf_X2_53 (v := iterK (fun j m => cSet m b k (a + j) (-1)) (c - a) κ k 5) C hk rfl dX2_unmap_32 ?_
      refine z_isub (v := (κ k 5) - (iterK (fun j m => cSet m b k (a + j) (-1)) (c - a) κ k 5)) C rfl dX2_unmap_35 ?_
      exact z_endI (hret _ _ dX2_unmap_36) rfl rfl
    · have g_12 := cv_nle (a := c) (b := a + (c - a)) (by omega) (by omega) h_12
      exact absurd g_12 (by omega)
  · intro i hi_9 ih_9
    refine z_iload C rfl dX2_unmap_9 ?_
    refine z_iload_n C rfl dX2_unmap_11 ?_
    refine z_icmp_ge (tgt := 29) C dX2_unmap_12 (by decide) (fun h_12 => ?_) (fun h_12 => ?_)
    · have g_12 := cv_le (a := c) (b := a + i) (by omega) (by omega) h_12
      exact absurd hi_9 (by omega)
    · have g_12 := cv_nle (a := c) (b := a + i) (by omega) (by omega) h_12
      refine z_aload_n C rfl dX2_unmap_15 ?_
      refine z_aload_n C rfl dX2_unmap_16 ?_
      refine z_iload C rfl dX2_unmap_17 ?_
      refine z_iconst (v := (-1)) C (by decide +kernel) dX2_unmap_19 ?_
      refine z_callV (As := [.ref (n0 + k), .int (nI (a + i)), .int ((-1))]) (r := none) (σ1 := (cSet (iterK (fun j m => cSet m b k (a + j) (-1)) i κ) b k (a + i) (-1), μ, o)) (st := []) (st1 := []) C K ok_X2_60 (c_X2_setExtent l D n0 (iterK (fun j m => cSet m b k (a + j) (-1)) i κ) μ o b k (a + i) (-1) hb hk (by omega) (by rw [cUm_ext hb hk]; split; exact Or.inl rfl; exact hX _) (Or.inl rfl)) (enc_S hb) (isS_lt hb) rfl rfl ⟨by decide, by decide⟩ ⟨Nat.zero_le _, Nat.zero_le _⟩ (by simp [Value.category]) dX2_unmap_20 rfl rfl ?_
      refine z_iinc (v := nI (a + i + 1)) (ls' := [some (.ref (n0 + b)), some (.ref (n0 + k)), some (.int (nI a)), some (.int (nI c)), some (.int (κ k 5)), some (.int (nI (a + i + 1)))]) C rfl (cv_inc (a + i) 1) (by decide) rfl dX2_unmap_23 ?_
      refine z_goto (tgt := 9) C dX2_unmap_26 (by decide) ?_
      exact z_cast (σ1 := (iterK (fun j m => cSet m b k (a + j) (-1)) (i + 1) κ, μ, o)) (ls' := [some (.ref (n0 + b)), some (.ref (n0 + k)), some (.int (nI a)), some (.int (nI c)), some (.int (κ k 5)), some (.int (nI (a + (i + 1))))]) (st' := []) (ih_9) rfl ⟨rfl, rfl, rfl, rfl, rfl, (so_int rfl), trivial⟩ rfl
set_option maxHeartbeats 4000000 in
set_option maxRecDepth 100000 in
theorem c_X2_userOf_n (l : Launch) (D : DD) (n0 : Nat) (κ μ : KH) (o : Int64) (b k : Nat) (i : Int32) (hb : isS b) (hk : k < 96) (hno : ∀ a, a < 640 → κ (b + 2 + 2 * (a / 40) + 1) (a % 40) = nI k → ¬ nI (sumTo (cU1 κ b (nI k)) a) = i) : HM l D n0 yX2_userOf cX2_userOf 6 (some .int) 1 21 [.ref (n0 + b), .int (nI k), .int i] (κ, μ, o) (some (.int ((-1)))) (κ, μ, o) := by
  refine HM.of (by decide) (by simp [Value.category]) (by simp) (Or.inr (Or.inl ⟨_, .int, rfl, rfl, rfl⟩)) ?_
  intro pp ee ss mm aa bb me cd Q C K hret
  show ZZ pp l ee (rmk 1 21) ss mm aa bb me cd D n0 127 6 0 0 Q _ 0 [some (.ref (n0 + b)), some (.int (nI k)), some (.int i), none, none, none] []
  refine z_iconst (v := 0) C (by decide +kernel) dX2_userOf_0 ?_
  refine z_istore_n (ls' := [some (.ref (n0 + b)), some (.int (nI k)), some (.int i), some (.int 0), none, none]) C (by decide) rfl dX2_userOf_1 ?_
  refine z_iconst (v := 0) C (by decide +kernel) dX2_userOf_2 ?_
  refine z_istore (ls' := [some (.ref (n0 + b)), some (.int (nI k)), some (.int i), some (.int 0), some (.int 0), none]) C (by decide) rfl dX2_userOf_3 ?_
  refine z_cast (σ1 := (κ, μ, o)) (ls' := [some (.ref (n0 + b)), some (.int (nI k)), some (.int i), some (.int (nI (sumTo (cU1 κ b (nI k)) 0))), some (.int (nI 0)), none]) (st' := []) (z_for (P := fun a => ZZ pp l ee (rmk 1 21) ss mm aa bb me cd D n0 127 6 0 0 Q (κ, μ, o) 5 [some (.ref (n0 + b)), some (.int (nI k)), some (.int i), some (.int (nI (sumTo (cU1 κ b (nI k)) a))), some (.int (nI a)), none] []) (640) ?_ ?_ 0 (Nat.zero_le _)) rfl ⟨rfl, rfl, rfl, (so_int rfl), rfl, trivial⟩ rfl
  · skip
    refine z_iload C rfl dX2_userOf_5 ?_
    refine z_sipush (v := 640) C (by decide +kernel) dX2_userOf_7 ?_
    refine z_icmp_ge (tgt := 72) C dX2_userOf_10 (by decide) (fun h_10 => ?_) (fun h_10 => ?_)
    · have g_10 := cv_le (a := 640) (b := 640) (by omega) (by omega) h_10
      refine z_iconst (v := (-1)) C (by decide +kernel) dX2_userOf_72 ?_
      exact z_endI (hret _ _ dX2_userOf_73) rfl rfl
    · have g_10 := cv_nle (a := 640) (b := 640) (by omega) (by omega) h_10
      exact absurd g_10 (by omega)
  · intro a hi_5 ih_5
    refine z_iload C rfl dX2_userOf_5 ?_
    refine z_sipush (v := 640) C (by decide +kernel) dX2_userOf_7 ?_
    refine z_icmp_ge (tgt := 72) C dX2_userOf_10 (by decide) (fun h_10 => ?_) (fun h_10 => ?_)
    · have g_10 := cv_le (a := 640) (b := a) (by omega) (by omega) h_10
      exact absurd hi_5 (by omega)
    · have g_10 := cv_nle (a := 640) (b := a) (by omega) (by omega) h_10
      refine z_aload_n C rfl dX2_userOf_13 ?_
      refine z_iload C rfl dX2_userOf_14 ?_
      refine z_bipush (v := 40) C (by decide +kernel) dX2_userOf_16 ?_
      refine z_idiv (v := nI (a / 40)) C (by decide +kernel) (cv_div (by omega) (by decide) (by decide)) dX2_userOf_18 ?_
      refine z_callV (As := [.int (nI (a / 40))]) (r := (some (.ref (n0 + (b + 2 + 2 * (a / 40)))))) (σ1 := (κ, μ, o)) (st := []) (st1 := [.ref (n0 + (b + 2 + 2 * (a / 40)))]) C K ok_X2_22 (c_X2_slot l D n0 κ μ o b (a / 40) hb (by omega)) (enc_S hb) (isS_lt hb) rfl rfl ⟨by decide, by decide⟩ ⟨Nat.zero_le _, Nat.zero_le _⟩ (by simp [Value.category]) dX2_userOf_19 rfl rfl ?_
      refine z_astore (ls' := [some (.ref (n0 + b)), some (.int (nI k)), some (.int i), some (.int (nI (sumTo (cU1 κ b (nI k)) a))), some (.int (nI a)), some (.ref (n0 + (b + 2 + 2 * (a / 40))))]) C (by decide) rfl dX2_userOf_22 ?_
      refine z_aload C rfl dX2_userOf_24 ?_
      refine z_ifnull C dX2_userOf_26 ?_
      refine z_aload C rfl dX2_userOf_29 ?_
      refine z_iload C rfl dX2_userOf_31 ?_
      refine z_bipush (v := 40) C (by decide +kernel) dX2_userOf_33 ?_
      refine z_irem (v := nI (a % 40)) C (by decide +kernel) (cv_rem (by omega) (by decide) (by decide)) dX2_userOf_35 ?_
      refine z_callV (As := [.int (nI (a % 40))]) (r := (some (.int (κ ((b + 2 + 2 * (a / 40)) + 1) (a % 40))))) (σ1 := (κ, μ, o)) (st := []) (st1 := [.int (κ ((b + 2 + 2 * (a / 40)) + 1) (a % 40))]) C K ok_X2_49 (c_X3_extentOf l D n0 κ μ o ((b + 2 + 2 * (a / 40))) (a % 40) (κ ((b + 2 + 2 * (a / 40)) + 1) (a % 40)) (isV_of hb (show a / 40 < 16 by omega)) (by omega) rfl) (enc_V (isV_of hb (show a / 40 < 16 by omega))) (isV_lt (isV_of hb (show a / 40 < 16 by omega))) rfl rfl ⟨by decide, by decide⟩ ⟨Nat.zero_le _, Nat.zero_le _⟩ (by simp [Value.category]) dX2_userOf_36 rfl rfl ?_
      refine z_iload_n C rfl dX2_userOf_39 ?_
      refine z_icmp_ne (tgt := 66) C dX2_userOf_40 (by decide) (fun h_40 => ?_) (fun h_40 => ?_)
      · skip
        refine z_iinc (v := nI (a + 1)) (ls' := [some (.ref (n0 + b)), some (.int (nI k)), some (.int i), some (.int (nI (sumTo (cU1 κ b (nI k)) a))), some (.int (nI (a + 1))), some (.ref (n0 + (b + 2 + 2 * (a / 40))))]) C rfl (cv_inc a 1) (by decide) rfl dX2_userOf_66 ?_
        refine z_goto (tgt := 5) C dX2_userOf_69 (by decide) ?_
        exact z_cast (σ1 := (κ, μ, o)) (ls' := [some (.ref (n0 + b)), some (.int (nI k)), some (.int i), some (.int (nI (sumTo (cU1 κ b (nI k)) (a + 1)))), some (.int (nI (a + 1))), none]) (st' := []) (ih_5) rfl ⟨rfl, rfl, rfl, (so_int (by rw [sumTo, cU1, if_neg h_40]; rfl)), rfl, trivial⟩ rfl
      · skip
        refine z_iload_n C rfl dX2_userOf_43 ?_
        refine z_iload_n C rfl dX2_userOf_44 ?_
        refine z_icmp_ne (tgt := 63) C dX2_userOf_45 (by decide) (fun h_45 => ?_) (fun h_45 => ?_)
        · skip
          refine z_iinc (v := nI (sumTo (cU1 κ b (nI k)) a + 1)) (ls' := [some (.ref (n0 + b)), some (.int (nI k)), some (.int i), some (.int (nI (sumTo (cU1 κ b (nI k)) a + 1))), some (.int (nI a)), some (.ref (n0 + (b + 2 + 2 * (a / 40))))]) C rfl (cv_inc (sumTo (cU1 κ b (nI k)) a) 1) (by decide) rfl dX2_userOf_63 ?_
          refine z_iinc (v := nI (a + 1)) (ls' := [some (.ref (n0 + b)), some (.int (nI k)), some (.int i), some (.int (nI (sumTo (cU1 κ b (nI k)) a + 1))), some (.int (nI (a + 1))), some (.ref (n0 + (b + 2 + 2 * (a / 40))))]) C rfl (cv_inc a 1) (by decide) rfl dX2_userOf_66 ?_
          refine z_goto (tgt := 5) C dX2_userOf_69 (by decide) ?_
          exact z_cast (σ1 := (κ, μ, o)) (ls' := [some (.ref (n0 + b)), some (.int (nI k)), some (.int i), some (.int (nI (sumTo (cU1 κ b (nI k)) (a + 1)))), some (.int (nI (a + 1))), none]) (st' := []) (ih_5) rfl ⟨rfl, rfl, rfl, (so_int (by rw [sumTo, cU1, if_pos h_40])), rfl, trivial⟩ rfl
        · exact absurd h_45 (hno a hi_5 h_40)
set_option maxHeartbeats 4000000 in
set_option maxRecDepth 100000 in
theorem c_X2_userOf (l : Launch) (D : DD) (n0 : Nat) (κ μ : KH) (o : Int64) (b k : Nat) (i : Int32) (hb : isS b) (hk : k < 96) (a0 : Nat) (ha0 : a0 < 640) (hm0 : κ (b + 2 + 2 * (a0 / 40) + 1) (a0 % 40) = nI k) (hi0 : nI (sumTo (cU1 κ b (nI k)) a0) = i) (hno : ∀ a, a < a0 → κ (b + 2 + 2 * (a / 40) + 1) (a % 40) = nI k → ¬ nI (sumTo (cU1 κ b (nI k)) a) = i) : HM l D n0 yX2_userOf cX2_userOf 6 (some .int) 1 21 [.ref (n0 + b), .int (nI k), .int i] (κ, μ, o) (some (.int (nI (64 * (a0 / 40) + a0 % 40)))) (κ, μ, o) := by
  refine HM.of (by decide) (by simp [Value.category]) (by simp) (Or.inr (Or.inl ⟨_, .int, rfl, rfl, rfl⟩)) ?_
  intro pp ee ss mm aa bb me cd Q C K hret
  show ZZ pp l ee (rmk 1 21) ss mm aa bb me cd D n0 127 6 0 0 Q _ 0 [some (.ref (n0 + b)), some (.int (nI k)), some (.int i), none, none, none] []
  refine z_iconst (v := 0) C (by decide +kernel) dX2_userOf_0 ?_
  refine z_istore_n (ls' := [some (.ref (n0 + b)), some (.int (nI k)), some (.int i), some (.int 0), none, none]) C (by decide) rfl dX2_userOf_1 ?_
  refine z_iconst (v := 0) C (by decide +kernel) dX2_userOf_2 ?_
  refine z_istore (ls' := [some (.ref (n0 + b)), some (.int (nI k)), some (.int i), some (.int 0), some (.int 0), none]) C (by decide) rfl dX2_userOf_3 ?_
  refine z_cast (σ1 := (κ, μ, o)) (ls' := [some (.ref (n0 + b)), some (.int (nI k)), some (.int i), some (.int (nI (sumTo (cU1 κ b (nI k)) 0))), some (.int (nI 0)), none]) (st' := []) (z_for (P := fun a => ZZ pp l ee (rmk 1 21) ss mm aa bb me cd D n0 127 6 0 0 Q (κ, μ, o) 5 [some (.ref (n0 + b)), some (.int (nI k)), some (.int i), some (.int (nI (sumTo (cU1 κ b (nI k)) a))), some (.int (nI a)), none] []) (a0) ?_ ?_ 0 (Nat.zero_le _)) rfl ⟨rfl, rfl, rfl, (so_int rfl), rfl, trivial⟩ rfl
  · skip
    refine z_iload C rfl dX2_userOf_5 ?_
    refine z_sipush (v := 640) C (by decide +kernel) dX2_userOf_7 ?_
    refine z_icmp_ge (tgt := 72) C dX2_userOf_10 (by decide) (fun h_10 => ?_) (fun h_10 => ?_)
    · have g_10 := cv_le (a := 640) (b := a0) (by omega) (by omega) h_10
      exact absurd g_10 (by omega)
    · have g_10 := cv_nle (a := 640) (b := a0) (by omega) (by omega) h_10
      refine z_aload_n C rfl dX2_userOf_13 ?_
      refine z_iload C rfl dX2_userOf_14 ?_
      refine z_bipush (v := 40) C (by decide +kernel) dX2_userOf_16 ?_
      refine z_idiv (v := nI (a0 / 40)) C (by decide +kernel) (cv_div (by omega) (by decide) (by decide)) dX2_userOf_18 ?_
      refine z_callV (As := [.int (nI (a0 / 40))]) (r := (some (.ref (n0 + (b + 2 + 2 * (a0 / 40)))))) (σ1 := (κ, μ, o)) (st := []) (st1 := [.ref (n0 + (b + 2 + 2 * (a0 / 40)))]) C K ok_X2_22 (c_X2_slot l D n0 κ μ o b (a0 / 40) hb (by omega)) (enc_S hb) (isS_lt hb) rfl rfl ⟨by decide, by decide⟩ ⟨Nat.zero_le _, Nat.zero_le _⟩ (by simp [Value.category]) dX2_userOf_19 rfl rfl ?_
      refine z_astore (ls' := [some (.ref (n0 + b)), some (.int (nI k)), some (.int i), some (.int (nI (sumTo (cU1 κ b (nI k)) a0))), some (.int (nI a0)), some (.ref (n0 + (b + 2 + 2 * (a0 / 40))))]) C (by decide) rfl dX2_userOf_22 ?_
      refine z_aload C rfl dX2_userOf_24 ?_
      refine z_ifnull C dX2_userOf_26 ?_
      refine z_aload C rfl dX2_userOf_29 ?_
      refine z_iload C rfl dX2_userOf_31 ?_
      refine z_bipush (v := 40) C (by decide +kernel) dX2_userOf_33 ?_
      refine z_irem (v := nI (a0 % 40)) C (by decide +kernel) (cv_rem (by omega) (by decide) (by decide)) dX2_userOf_35 ?_
      refine z_callV (As := [.int (nI (a0 % 40))]) (r := (some (.int (κ ((b + 2 + 2 * (a0 / 40)) + 1) (a0 % 40))))) (σ1 := (κ, μ, o)) (st := []) (st1 := [.int (κ ((b + 2 + 2 * (a0 / 40)) + 1) (a0 % 40))]) C K ok_X2_49 (c_X3_extentOf l D n0 κ μ o ((b + 2 + 2 * (a0 / 40))) (a0 % 40) (κ ((b + 2 + 2 * (a0 / 40)) + 1) (a0 % 40)) (isV_of hb (show a0 / 40 < 16 by omega)) (by omega) rfl) (enc_V (isV_of hb (show a0 / 40 < 16 by omega))) (isV_lt (isV_of hb (show a0 / 40 < 16 by omega))) rfl rfl ⟨by decide, by decide⟩ ⟨Nat.zero_le _, Nat.zero_le _⟩ (by simp [Value.category]) dX2_userOf_36 rfl rfl ?_
      refine z_iload_n C rfl dX2_userOf_39 ?_
      refine z_icmp_ne (tgt := 66) C dX2_userOf_40 (by decide) (fun h_40 => ?_) (fun h_40 => ?_)
      · exact absurd hm0 h_40
      · skip
        refine z_iload_n C rfl dX2_userOf_43 ?_
        refine z_iload_n C rfl dX2_userOf_44 ?_
        refine z_icmp_ne (tgt := 63) C dX2_userOf_45 (by decide) (fun h_45 => ?_) (fun h_45 => ?_)
        · exact absurd hi0 h_45
        · skip
          refine z_bipush (v := 64) C (by decide +kernel) dX2_userOf_48 ?_
          refine z_iload C rfl dX2_userOf_50 ?_
          refine z_bipush (v := 40) C (by decide +kernel) dX2_userOf_52 ?_
          refine z_idiv (v := nI (a0 / 40)) C (by decide +kernel) (cv_div (by omega) (by decide) (by decide)) dX2_userOf_54 ?_
          refine z_imul (v := nI (64 * (a0 / 40))) C (cv_mul 64 (a0 / 40)) dX2_userOf_55 ?_
          refine z_iload C rfl dX2_userOf_56 ?_
          refine z_bipush (v := 40) C (by decide +kernel) dX2_userOf_58 ?_
          refine z_irem (v := nI (a0 % 40)) C (by decide +kernel) (cv_rem (by omega) (by decide) (by decide)) dX2_userOf_60 ?_
          refine z_iadd (v := nI (64 * (a0 / 40) + (a0 % 40))) C (cv_add (64 * (a0 / 40)) (a0 % 40)) dX2_userOf_61 ?_
          exact z_endI (hret _ _ dX2_userOf_62) rfl rfl
  · intro a hi_5 ih_5
    refine z_iload C rfl dX2_userOf_5 ?_
    refine z_sipush (v := 640) C (by decide +kernel) dX2_userOf_7 ?_
    refine z_icmp_ge (tgt := 72) C dX2_userOf_10 (by decide) (fun h_10 => ?_) (fun h_10 => ?_)
    · have g_10 := cv_le (a := 640) (b := a) (by omega) (by omega) h_10
      exact absurd g_10 (by omega)
    · have g_10 := cv_nle (a := 640) (b := a) (by omega) (by omega) h_10
      refine z_aload_n C rfl dX2_userOf_13 ?_
      refine z_iload C rfl dX2_userOf_14 ?_
      refine z_bipush (v := 40) C (by decide +kernel) dX2_userOf_16 ?_
      refine z_idiv (v := nI (a / 40)) C (by decide +kernel) (cv_div (by omega) (by decide) (by decide)) dX2_userOf_18 ?_
      refine z_callV (As := [.int (nI (a / 40))]) (r := (some (.ref (n0 + (b + 2 + 2 * (a / 40)))))) (σ1 := (κ, μ, o)) (st := []) (st1 := [.ref (n0 + (b + 2 + 2 * (a / 40)))]) C K ok_X2_22 (c_X2_slot l D n0 κ μ o b (a / 40) hb (by omega)) (enc_S hb) (isS_lt hb) rfl rfl ⟨by decide, by decide⟩ ⟨Nat.zero_le _, Nat.zero_le _⟩ (by simp [Value.category]) dX2_userOf_19 rfl rfl ?_
      refine z_astore (ls' := [some (.ref (n0 + b)), some (.int (nI k)), some (.int i), some (.int (nI (sumTo (cU1 κ b (nI k)) a))), some (.int (nI a)), some (.ref (n0 + (b + 2 + 2 * (a / 40))))]) C (by decide) rfl dX2_userOf_22 ?_
      refine z_aload C rfl dX2_userOf_24 ?_
      refine z_ifnull C dX2_userOf_26 ?_
      refine z_aload C rfl dX2_userOf_29 ?_
      refine z_iload C rfl dX2_userOf_31 ?_
      refine z_bipush (v := 40) C (by decide +kernel) dX2_userOf_33 ?_
      refine z_irem (v := nI (a % 40)) C (by decide +kernel) (cv_rem (by omega) (by decide) (by decide)) dX2_userOf_35 ?_
      refine z_callV (As := [.int (nI (a % 40))]) (r := (some (.int (κ ((b + 2 + 2 * (a / 40)) + 1) (a % 40))))) (σ1 := (κ, μ, o)) (st := []) (st1 := [.int (κ ((b + 2 + 2 * (a / 40)) + 1) (a % 40))]) C K ok_X2_49 (c_X3_extentOf l D n0 κ μ o ((b + 2 + 2 * (a / 40))) (a % 40) (κ ((b + 2 + 2 * (a / 40)) + 1) (a % 40)) (isV_of hb (show a / 40 < 16 by omega)) (by omega) rfl) (enc_V (isV_of hb (show a / 40 < 16 by omega))) (isV_lt (isV_of hb (show a / 40 < 16 by omega))) rfl rfl ⟨by decide, by decide⟩ ⟨Nat.zero_le _, Nat.zero_le _⟩ (by simp [Value.category]) dX2_userOf_36 rfl rfl ?_
      refine z_iload_n C rfl dX2_userOf_39 ?_
      refine z_icmp_ne (tgt := 66) C dX2_userOf_40 (by decide) (fun h_40 => ?_) (fun h_40 => ?_)
      · skip
        refine z_iinc (v := nI (a + 1)) (ls' := [some (.ref (n0 + b)), some (.int (nI k)), some (.int i), some (.int (nI (sumTo (cU1 κ b (nI k)) a))), some (.int (nI (a + 1))), some (.ref (n0 + (b + 2 + 2 * (a / 40))))]) C rfl (cv_inc a 1) (by decide) rfl dX2_userOf_66 ?_
        refine z_goto (tgt := 5) C dX2_userOf_69 (by decide) ?_
        exact z_cast (σ1 := (κ, μ, o)) (ls' := [some (.ref (n0 + b)), some (.int (nI k)), some (.int i), some (.int (nI (sumTo (cU1 κ b (nI k)) (a + 1)))), some (.int (nI (a + 1))), none]) (st' := []) (ih_5) rfl ⟨rfl, rfl, rfl, (so_int (by rw [sumTo, cU1, if_neg h_40]; rfl)), rfl, trivial⟩ rfl
      · skip
        refine z_iload_n C rfl dX2_userOf_43 ?_
        refine z_iload_n C rfl dX2_userOf_44 ?_
        refine z_icmp_ne (tgt := 63) C dX2_userOf_45 (by decide) (fun h_45 => ?_) (fun h_45 => ?_)
        · skip
          refine z_iinc (v := nI (sumTo (cU1 κ b (nI k)) a + 1)) (ls' := [some (.ref (n0 + b)), some (.int (nI k)), some (.int i), some (.int (nI (sumTo (cU1 κ b (nI k)) a + 1))), some (.int (nI a)), some (.ref (n0 + (b + 2 + 2 * (a / 40))))]) C rfl (cv_inc (sumTo (cU1 κ b (nI k)) a) 1) (by decide) rfl dX2_userOf_63 ?_
          refine z_iinc (v := nI (a + 1)) (ls' := [some (.ref (n0 + b)), some (.int (nI k)), some (.int i), some (.int (nI (sumTo (cU1 κ b (nI k)) a + 1))), some (.int (nI (a + 1))), some (.ref (n0 + (b + 2 + 2 * (a / 40))))]) C rfl (cv_inc a 1) (by decide) rfl dX2_userOf_66 ?_
          refine z_goto (tgt := 5) C dX2_userOf_69 (by decide) ?_
          exact z_cast (σ1 := (κ, μ, o)) (ls' := [some (.ref (n0 + b)), some (.int (nI k)), some (.int i), some (.int (nI (sumTo (cU1 κ b (nI k)) (a + 1)))), some (.int (nI (a + 1))), none]) (st' := []) (ih_5) rfl ⟨rfl, rfl, rfl, (so_int (by rw [sumTo, cU1, if_pos h_40])), rfl, trivial⟩ rfl
        · exact absurd h_45 (hno a hi_5 h_40)
set_option maxHeartbeats 4000000 in
set_option maxRecDepth 100000 in
theorem c_X2_hasBacked (l : Launch) (D : DD) (n0 : Nat) (κ μ : KH) (o : Int64) (b : Nat) (hb : isS b) : HM l D n0 yX2_hasBacked cX2_hasBacked 5 (some .boolean) 0 0 [.ref (n0 + b)] (κ, μ, o) (some (.int (b2i (cHB κ b)))) (κ, μ, o) := by
  refine HM.of (by decide) (by simp [Value.category]) (by simp) (Or.inr (Or.inl ⟨_, .boolean, rfl, rfl, (b2i_nar _)⟩)) ?_
  intro pp ee ss mm aa bb me cd Q C K hret
  show ZZ pp l ee (rmk 0 0) ss mm aa bb me cd D n0 127 5 0 0 Q _ 0 [some (.ref (n0 + b)), none, none, none, none] []
  refine z_aload_n C rfl dX2_hasBacked_0 ?_
  refine gf_X2_11 C hb dX2_hasBacked_1 ?_
  refine z_astore_n (ls' := [some (.ref (n0 + b)), some (.ref (n0 + (b + 1))), none, none, none]) C (by decide) rfl dX2_hasBacked_4 ?_
  refine z_aload_n C rfl dX2_hasBacked_5 ?_
  refine an_SV C hb dX2_hasBacked_6 ?_
  refine z_istore_n (ls' := [some (.ref (n0 + b)), some (.ref (n0 + (b + 1))), some (.int 16), none, none]) C (by decide) rfl dX2_hasBacked_7 ?_
  refine z_iconst (v := 0) C (by decide +kernel) dX2_hasBacked_8 ?_
  refine z_istore_n (ls' := [some (.ref (n0 + b)), some (.ref (n0 + (b + 1))), some (.int 16), some (.int 0), none]) C (by decide) rfl dX2_hasBacked_9 ?_
  refine z_cast (σ1 := (κ, μ, o)) (ls' := [some (.ref (n0 + b)), some (.ref (n0 + (b + 1))), some (.int 16), some (.int (nI 0)), none]) (st' := []) (z_for (P := fun i => anyTo (cBk κ b) i = false → ZZ pp l ee (rmk 0 0) ss mm aa bb me cd D n0 127 5 0 0 Q (κ, μ, o) 10 [some (.ref (n0 + b)), some (.ref (n0 + (b + 1))), some (.int 16), some (.int (nI i)), none] []) (16) ?_ ?_ 0 (Nat.zero_le _) rfl) rfl ⟨rfl, rfl, rfl, rfl, trivial⟩ rfl
  · intro hinv_10
    refine z_iload_n C rfl dX2_hasBacked_10 ?_
    refine z_iload_n C rfl dX2_hasBacked_11 ?_
    refine z_icmp_ge (tgt := 44) C dX2_hasBacked_12 (by decide) (fun h_12 => ?_) (fun h_12 => ?_)
    · have g_12 := cv_le (a := 16) (b := 16) (by omega) (by omega) h_12
      refine z_iconst (v := 0) C (by decide +kernel) dX2_hasBacked_44 ?_
      exact z_endI (hret _ _ dX2_hasBacked_45) (b2i_0 hinv_10) rfl
    · have g_12 := cv_nle (a := 16) (b := 16) (by omega) (by omega) h_12
      exact absurd g_12 (by omega)
  · intro i hi_10 ih_10 hinv_10
    refine z_iload_n C rfl dX2_hasBacked_10 ?_
    refine z_iload_n C rfl dX2_hasBacked_11 ?_
    refine z_icmp_ge (tgt := 44) C dX2_hasBacked_12 (by decide) (fun h_12 => ?_) (fun h_12 => ?_)
    · have g_12 := cv_le (a := 16) (b := i) (by omega) (by omega) h_12
      exact absurd hi_10 (by omega)
    · have g_12 := cv_nle (a := 16) (b := i) (by omega) (by omega) h_12
      refine z_aload_n C rfl dX2_hasBacked_15 ?_
      refine z_iload_n C rfl dX2_hasBacked_16 ?_
      refine z_aldV C (i) hb (by have := hb; unfold isS at this; omega) rfl (by omega) dX2_hasBacked_17 ?_
      refine z_astore (ls' := [some (.ref (n0 + b)), some (.ref (n0 + (b + 1))), some (.int 16), some (.int (nI i)), some (.ref (n0 + (b + 2 + 2 * i)))]) C (by decide) rfl dX2_hasBacked_18 ?_
      refine z_aload C rfl dX2_hasBacked_20 ?_
      refine gf_X2_26 (v := κ ((b + 2 + 2 * i)) 0) C (isV_of hb hi_10) rfl dX2_hasBacked_22 ?_
      refine z_if_eq (tgt := 38) C dX2_hasBacked_25 (by decide) (fun h_25 => ?_) (fun h_25 => ?_)
      · skip
        refine z_iinc (v := nI (i + 1)) (ls' := [some (.ref (n0 + b)), some (.ref (n0 + (b + 1))), some (.int 16), some (.int (nI (i + 1))), some (.ref (n0 + (b + 2 + 2 * i)))]) C rfl (cv_inc i 1) (by decide) rfl dX2_hasBacked_38 ?_
        refine z_goto (tgt := 10) C dX2_hasBacked_41 (by decide) ?_
        exact z_cast (σ1 := (κ, μ, o)) (ls' := [some (.ref (n0 + b)), some (.ref (n0 + (b + 1))), some (.int 16), some (.int (nI (i + 1))), none]) (st' := []) (ih_10 (by rw [anyTo, hinv_10]; simp [cBk, h_25])) rfl ⟨rfl, rfl, rfl, rfl, trivial⟩ rfl
      · skip
        refine z_aload C rfl dX2_hasBacked_28 ?_
        refine gf_X2_34 (v := κ ((b + 2 + 2 * i)) 1) C (isV_of hb hi_10) rfl dX2_hasBacked_30 ?_
        refine z_if_eq (tgt := 38) C dX2_hasBacked_33 (by decide) (fun h_33 => ?_) (fun h_33 => ?_)
        · skip
          refine z_iinc (v := nI (i + 1)) (ls' := [some (.ref (n0 + b)), some (.ref (n0 + (b + 1))), some (.int 16), some (.int (nI (i + 1))), some (.ref (n0 + (b + 2 + 2 * i)))]) C rfl (cv_inc i 1) (by decide) rfl dX2_hasBacked_38 ?_
          refine z_goto (tgt := 10) C dX2_hasBacked_41 (by decide) ?_
          exact z_cast (σ1 := (κ, μ, o)) (ls' := [some (.ref (n0 + b)), some (.ref (n0 + (b + 1))), some (.int 16), some (.int (nI (i + 1))), none]) (st' := []) (ih_10 (by rw [anyTo, hinv_10]; simp [cBk, h_33])) rfl ⟨rfl, rfl, rfl, rfl, trivial⟩ rfl
        · skip
          refine z_iconst (v := 1) C (by decide +kernel) dX2_hasBacked_36 ?_
          exact z_endI (hret _ _ dX2_hasBacked_37) (b2i_1 (anyTo_t (i := i) (by simp [cBk, h_25, h_33]) 16 (by omega))) rfl
set_option maxHeartbeats 4000000 in
set_option maxRecDepth 100000 in
theorem c_X2_copy (l : Launch) (D : DD) (n0 : Nat) (κ μ : KH) (o : Int64) (b a : Nat) (hb : isS b) (ha : isS a) (hab : a ≠ b) (h01 : ∀ v, v < 16 → is01 (κ (a + 2 + 2 * v) 0) ∧ is01 (κ (a + 2 + 2 * v) 1)) : HM l D n0 yX2_copy cX2_copy 3 none 2 61 [.ref (n0 + b), .ref (n0 + a)] (κ, μ, o) none (cScp κ b a, μ, o) := by
  refine HM.of (by decide) (by simp [Value.category]) (by simp) (Or.inl ⟨rfl, rfl⟩) ?_
  intro pp ee ss mm aa bb me cd Q C K hret
  show ZZ pp l ee (rmk 2 61) ss mm aa bb me cd D n0 127 3 0 0 Q _ 0 [some (.ref (n0 + b)), some (.ref (n0 + a)), none] []
  refine z_aload_n C rfl dX2_copy_0 ?_
  refine z_aload_n C rfl dX2_copy_1 ?_
  refine gf_X2_63 (v := κ a 0) C ha rfl dX2_copy_2 ?_
  refine pf_X2_63 (x := κ a 0) C hb dX2_copy_5 ?_
  refine z_aload_n C rfl dX2_copy_8 ?_
  refine z_aload_n C rfl dX2_copy_9 ?_
  refine gf_X2_43 (v := κ a 1) C ha (show _ = κ a 1 by simp [up, hab]) dX2_copy_10 ?_
  refine pf_X2_43 (x := κ a 1) C hb dX2_copy_13 ?_
  refine z_iconst (v := 0) C (by decide +kernel) dX2_copy_16 ?_
  refine z_istore_n (ls' := [some (.ref (n0 + b)), some (.ref (n0 + a)), some (.int 0)]) C (by decide) rfl dX2_copy_17 ?_
  refine z_cast (σ1 := (iterK (cSc1 b a) 0 (up (up κ b 0 (κ a 0)) b 1 (κ a 1)), μ, o)) (ls' := [some (.ref (n0 + b)), some (.ref (n0 + a)), some (.int (nI 0))]) (st' := []) (z_for (P := fun i => ZZ pp l ee (rmk 2 61) ss mm aa bb me cd D n0 127 3 0 0 Q (iterK (cSc1 b a) i (up (up κ b 0 (κ a 0)) b 1 (κ a 1)), μ, o) 18 [some (.ref (n0 + b)), some (.ref (n0 + a)), some (.int (nI i))] []) (16) ?_ ?_ 0 (Nat.zero_le _)) rfl ⟨rfl, rfl, rfl, trivial⟩ rfl
  · skip
    refine z_iload_n C rfl dX2_copy_18 ?_
    refine z_bipush (v := 16) C (by decide +kernel) dX2_copy_19 ?_
    refine z_icmp_ge (tgt := 45) C dX2_copy_21 (by decide) (fun h_21 => ?_) (fun h_21 => ?_)
    · have g_21 := cv_le (a := 16) (b := 16) (by omega) (by omega) h_21
      refine z_aload_n C rfl dX2_copy_45 ?_
      refine gf_X2_18 C ha dX2_copy_46 ?_
      refine z_iconst (v := 0) C (by decide +kernel) dX2_copy_49 ?_
      refine z_aload_n C rfl dX2_copy_50 ?_
      refine gf_X2_18 C hb dX2_copy_51 ?_
      refine z_iconst (v := 0) C (by decide +kernel) dX2_copy_54 ?_
      refine z_bipush (v := 96) C (by decide +kernel) dX2_copy_55 ?_
      refine z_acpy (src := (a + 34)) (dst := (b + 34)) (n := 96) C (enc_SU ha) (fun _ => enc_SU hb) (isS_l34 ha) (isS_l34 hb) rfl (by decide) (by decide) (by decide) wdx_254 wdx_nat wdx_sta wdx_ini ⟨by decide, by decide +kernel⟩ dX2_copy_57 ?_
      exact z_endV (hret _ _ dX2_copy_60) rfl
    · have g_21 := cv_nle (a := 16) (b := 16) (by omega) (by omega) h_21
      exact absurd g_21 (by omega)
  · intro i hi_18 ih_18
    refine z_iload_n C rfl dX2_copy_18 ?_
    refine z_bipush (v := 16) C (by decide +kernel) dX2_copy_19 ?_
    refine z_icmp_ge (tgt := 45) C dX2_copy_21 (by decide) (fun h_21 => ?_) (fun h_21 => ?_)
    · have g_21 := cv_le (a := 16) (b := i) (by omega) (by omega) h_21
      exact absurd hi_18 (by omega)
    · have g_21 := cv_nle (a := 16) (b := i) (by omega) (by omega) h_21
      refine z_aload_n C rfl dX2_copy_24 ?_
      refine gf_X2_11 C hb dX2_copy_25 ?_
      refine z_iload_n C rfl dX2_copy_28 ?_
      refine z_aldV C (i) hb (by have := hb; unfold isS at this; omega) rfl (by omega) dX2_copy_29 ?_
      refine z_aload_n C rfl dX2_copy_30 ?_
      refine gf_X2_11 C ha dX2_copy_31 ?_
      refine z_iload_n C rfl dX2_copy_34 ?_
      refine z_aldV C (i) ha (by have := ha; unfold isS at this; omega) rfl (by omega) dX2_copy_35 ?_
      have hs1 : ∀ j, iterK (cSc1 b a) i (up (up κ b 0 (κ a 0)) b 1 (κ a 1)) (a + 2 + 2 * i) j = κ (a + 2 + 2 * i) j := fun j => by rw [cSc_o _ (fun v hv => isS_2 ha hb hab i v (by omega) hv) i (by omega), up_cell (Ne.symm (isS_V hb (isV_of ha hi_18)).2.2.1), up_cell (Ne.symm (isS_V hb (isV_of ha hi_18)).2.2.1)]
      refine z_callV (As := [.ref (n0 + (a + 2 + 2 * i))]) (r := none) (σ1 := (cVc (iterK (cSc1 b a) i (up (up κ b 0 (κ a 0)) b 1 (κ a 1))) (b + 2 + 2 * i) (a + 2 + 2 * i), μ, o)) (st := []) (st1 := []) C K ok_X2_66 (c_X3_copy l D n0 (iterK (cSc1 b a) i (up (up κ b 0 (κ a 0)) b 1 (κ a 1))) μ o (b + 2 + 2 * i) (a + 2 + 2 * i) (isV_of hb hi_18) (isV_of ha hi_18) (by rw [hs1]; exact (h01 i hi_18).1) (by rw [hs1]; exact (h01 i hi_18).2) (isS_2 hb ha (Ne.symm hab) i i hi_18 hi_18).1) (enc_V (isV_of hb hi_18)) (isV_lt (isV_of hb hi_18)) rfl rfl ⟨by decide, by decide⟩ ⟨Nat.zero_le _, Nat.zero_le _⟩ (by simp [Value.category]) dX2_copy_36 rfl rfl ?_
      refine z_iinc (v := nI (i + 1)) (ls' := [some (.ref (n0 + b)), some (.ref (n0 + a)), some (.int (nI (i + 1)))]) C rfl (cv_inc i 1) (by decide) rfl dX2_copy_39 ?_
      refine z_goto (tgt := 18) C dX2_copy_42 (by decide) ?_
      exact z_cast (σ1 := (iterK (cSc1 b a) (i + 1) (up (up κ b 0 (κ a 0)) b 1 (κ a 1)), μ, o)) (ls' := [some (.ref (n0 + b)), some (.ref (n0 + a)), some (.int (nI (i + 1)))]) (st' := []) (ih_18) rfl ⟨rfl, rfl, rfl, trivial⟩ rfl
set_option maxHeartbeats 4000000 in
set_option maxRecDepth 100000 in
theorem c_X2_clear (l : Launch) (D : DD) (n0 : Nat) (κ μ : KH) (o : Int64) (b : Nat) (hb : isS b) : HM l D n0 yX2_clear cX2_clear 5 none 2 43 [.ref (n0 + b)] (κ, μ, o) none (cSz κ b, μ, o) := by
  refine HM.of (by decide) (by simp [Value.category]) (by simp) (Or.inl ⟨rfl, rfl⟩) ?_
  intro pp ee ss mm aa bb me cd Q C K hret
  show ZZ pp l ee (rmk 2 43) ss mm aa bb me cd D n0 127 5 0 0 Q _ 0 [some (.ref (n0 + b)), none, none, none, none] []
  refine z_aload_n C rfl dX2_clear_0 ?_
  refine z_iconst (v := 0) C (by decide +kernel) dX2_clear_1 ?_
  refine pf_X2_63 (x := 0) C hb dX2_clear_2 ?_
  refine z_aload_n C rfl dX2_clear_5 ?_
  refine z_iconst (v := 0) C (by decide +kernel) dX2_clear_6 ?_
  refine pf_X2_43 (x := 0) C hb dX2_clear_7 ?_
  refine z_aload_n C rfl dX2_clear_10 ?_
  refine gf_X2_11 C hb dX2_clear_11 ?_
  refine z_astore_n (ls' := [some (.ref (n0 + b)), some (.ref (n0 + (b + 1))), none, none, none]) C (by decide) rfl dX2_clear_14 ?_
  refine z_aload_n C rfl dX2_clear_15 ?_
  refine an_SV C hb dX2_clear_16 ?_
  refine z_istore_n (ls' := [some (.ref (n0 + b)), some (.ref (n0 + (b + 1))), some (.int 16), none, none]) C (by decide) rfl dX2_clear_17 ?_
  refine z_iconst (v := 0) C (by decide +kernel) dX2_clear_18 ?_
  refine z_istore_n (ls' := [some (.ref (n0 + b)), some (.ref (n0 + (b + 1))), some (.int 16), some (.int 0), none]) C (by decide) rfl dX2_clear_19 ?_
  refine z_cast (σ1 := (iterK (cSz1 b) 0 (up (up κ b 0 0) b 1 0), μ, o)) (ls' := [some (.ref (n0 + b)), some (.ref (n0 + (b + 1))), some (.int 16), some (.int (nI 0)), none]) (st' := []) (z_for (P := fun i => ZZ pp l ee (rmk 2 43) ss mm aa bb me cd D n0 127 5 0 0 Q (iterK (cSz1 b) i (up (up κ b 0 0) b 1 0), μ, o) 20 [some (.ref (n0 + b)), some (.ref (n0 + (b + 1))), some (.int 16), some (.int (nI i)), none] []) (16) ?_ ?_ 0 (Nat.zero_le _)) rfl ⟨rfl, rfl, rfl, rfl, trivial⟩ rfl
  · skip
    refine z_iload_n C rfl dX2_clear_20 ?_
    refine z_iload_n C rfl dX2_clear_21 ?_
    refine z_icmp_ge (tgt := 41) C dX2_clear_22 (by decide) (fun h_22 => ?_) (fun h_22 => ?_)
    · have g_22 := cv_le (a := 16) (b := 16) (by omega) (by omega) h_22
      refine z_aload_n C rfl dX2_clear_41 ?_
      refine gf_X2_18 C hb dX2_clear_42 ?_
      refine z_iconst (v := 0) C (by decide +kernel) dX2_clear_45 ?_
      refine z_callS (As := [.ref (n0 + (b + 34)), .int 0]) (r := none) (σ1 := (fil (iterK (cSz1 b) 16 (up (up κ b 0 0) b 1 0)) (b + 34) 0 96, μ, o)) (st := []) (st1 := []) C K ok_X2_76 (c_fill l D n0 (iterK (cSz1 b) 16 (up (up κ b 0 0) b 1 0)) μ o (b + 34) 96 0 (fun _ => enc_SU hb) (isS_l34 hb) (by decide)) rfl ⟨by decide, by decide⟩ ⟨Nat.zero_le _, Nat.zero_le _⟩ (by simp [Value.category]) dX2_clear_46 rfl rfl ?_
      exact z_endV (hret _ _ dX2_clear_49) rfl
    · have g_22 := cv_nle (a := 16) (b := 16) (by omega) (by omega) h_22
      exact absurd g_22 (by omega)
  · intro i hi_20 ih_20
    refine z_iload_n C rfl dX2_clear_20 ?_
    refine z_iload_n C rfl dX2_clear_21 ?_
    refine z_icmp_ge (tgt := 41) C dX2_clear_22 (by decide) (fun h_22 => ?_) (fun h_22 => ?_)
    · have g_22 := cv_le (a := 16) (b := i) (by omega) (by omega) h_22
      exact absurd hi_20 (by omega)
    · have g_22 := cv_nle (a := 16) (b := i) (by omega) (by omega) h_22
      refine z_aload_n C rfl dX2_clear_25 ?_
      refine z_iload_n C rfl dX2_clear_26 ?_
      refine z_aldV C (i) hb (by have := hb; unfold isS at this; omega) rfl (by omega) dX2_clear_27 ?_
      refine z_astore (ls' := [some (.ref (n0 + b)), some (.ref (n0 + (b + 1))), some (.int 16), some (.int (nI i)), some (.ref (n0 + (b + 2 + 2 * i)))]) C (by decide) rfl dX2_clear_28 ?_
      refine z_aload C rfl dX2_clear_30 ?_
      refine z_callV (As := []) (r := none) (σ1 := (cVz (iterK (cSz1 b) i (up (up κ b 0 0) b 1 0)) ((b + 2 + 2 * i)), μ, o)) (st := []) (st1 := []) C K ok_X2_46 (c_X3_clear l D n0 (iterK (cSz1 b) i (up (up κ b 0 0) b 1 0)) μ o ((b + 2 + 2 * i)) (isV_of hb hi_20)) (enc_V (isV_of hb hi_20)) (isV_lt (isV_of hb hi_20)) rfl rfl ⟨by decide, by decide⟩ ⟨Nat.zero_le _, Nat.zero_le _⟩ (by simp [Value.category]) dX2_clear_32 rfl rfl ?_
      refine z_iinc (v := nI (i + 1)) (ls' := [some (.ref (n0 + b)), some (.ref (n0 + (b + 1))), some (.int 16), some (.int (nI (i + 1))), some (.ref (n0 + (b + 2 + 2 * i)))]) C rfl (cv_inc i 1) (by decide) rfl dX2_clear_35 ?_
      refine z_goto (tgt := 20) C dX2_clear_38 (by decide) ?_
      exact z_cast (σ1 := (iterK (cSz1 b) (i + 1) (up (up κ b 0 0) b 1 0), μ, o)) (ls' := [some (.ref (n0 + b)), some (.ref (n0 + (b + 1))), some (.int 16), some (.int (nI (i + 1))), none]) (st' := []) (ih_20) rfl ⟨rfl, rfl, rfl, rfl, trivial⟩ rfl
set_option maxHeartbeats 4000000 in
set_option maxRecDepth 100000 in
theorem c_X0_isFree (l : Launch) (D : DD) (n0 : Nat) (κ μ : KH) (o : Int64) (e : Nat) (he : e < 96) : HM l D n0 yX0_isFree cX0_isFree 2 (some .boolean) 1 21 [.ref (n0 + 106), .int (nI e)] (κ, μ, o) (some (.int (b2i (cFree κ e)))) (κ, μ, o) := by
  refine HM.of (by decide) (by simp [Value.category]) (by simp) (Or.inr (Or.inl ⟨_, .boolean, rfl, rfl, (b2i_nar _)⟩)) ?_
  intro pp ee ss mm aa bb me cd Q C K hret
  show ZZ pp l ee (rmk 1 21) ss mm aa bb me cd D n0 127 2 0 0 Q _ 0 [some (.ref (n0 + 106)), some (.int (nI e))] []
  refine z_aload_n C rfl dX0_isFree_0 ?_
  refine gf_X0_9 C dX0_isFree_1 ?_
  refine z_iload_n C rfl dX0_isFree_4 ?_
  refine z_callV (As := [.int (nI e)]) (r := (some (.int (κ 35 e)))) (σ1 := (κ, μ, o)) (st := []) (st1 := [.int (κ 35 e)]) C K ok_X0_29 (c_X2_usesOf l D n0 κ μ o 1 e (κ 35 e) (Or.inl rfl) (by omega) rfl) (enc_S (Or.inl rfl)) (isS_lt (Or.inl rfl)) rfl rfl ⟨by decide, by decide⟩ ⟨Nat.zero_le _, Nat.zero_le _⟩ (by simp [Value.category]) dX0_isFree_5 rfl rfl ?_
  refine z_aload_n C rfl dX0_isFree_8 ?_
  refine gf_X0_15 C dX0_isFree_9 ?_
  refine z_iload_n C rfl dX0_isFree_12 ?_
  refine z_callV (As := [.int (nI e)]) (r := (some (.int (κ 70 e)))) (σ1 := (κ, μ, o)) (st := [.int (κ 35 e)]) (st1 := [.int (κ 70 e), .int (κ 35 e)]) C K ok_X0_29 (c_X2_usesOf l D n0 κ μ o 36 e (κ 70 e) (Or.inr (Or.inl rfl)) (by omega) rfl) (enc_S (Or.inr (Or.inl rfl))) (isS_lt (Or.inr (Or.inl rfl))) rfl rfl ⟨by decide, by decide⟩ ⟨Nat.zero_le _, Nat.zero_le _⟩ (by simp [Value.category]) dX0_isFree_13 rfl rfl ?_
  refine z_iadd (v := (κ 35 e) + (κ 70 e)) C rfl dX0_isFree_16 ?_
  refine z_aload_n C rfl dX0_isFree_17 ?_
  refine gf_X0_18 C dX0_isFree_18 ?_
  refine z_iload_n C rfl dX0_isFree_21 ?_
  refine z_callV (As := [.int (nI e)]) (r := (some (.int (κ 105 e)))) (σ1 := (κ, μ, o)) (st := [.int ((κ 35 e) + (κ 70 e))]) (st1 := [.int (κ 105 e), .int ((κ 35 e) + (κ 70 e))]) C K ok_X0_29 (c_X2_usesOf l D n0 κ μ o 71 e (κ 105 e) (Or.inr (Or.inr rfl)) (by omega) rfl) (enc_S (Or.inr (Or.inr rfl))) (isS_lt (Or.inr (Or.inr rfl))) rfl rfl ⟨by decide, by decide⟩ ⟨Nat.zero_le _, Nat.zero_le _⟩ (by simp [Value.category]) dX0_isFree_22 rfl rfl ?_
  refine z_iadd (v := ((κ 35 e) + (κ 70 e)) + (κ 105 e)) C rfl dX0_isFree_25 ?_
  refine z_if_ne (tgt := 33) C dX0_isFree_26 (by decide) (fun h_26 => ?_) (fun h_26 => ?_)
  · skip
    refine z_iconst (v := 0) C (by decide +kernel) dX0_isFree_33 ?_
    exact z_endI (hret _ _ dX0_isFree_34) (b2i_0 (decide_eq_false h_26)) rfl
  · skip
    refine z_iconst (v := 1) C (by decide +kernel) dX0_isFree_29 ?_
    refine z_goto (tgt := 34) C dX0_isFree_30 (by decide) ?_
    exact z_endI (hret _ _ dX0_isFree_34) (b2i_1 (decide_eq_true h_26)) rfl
set_option maxHeartbeats 4000000 in
set_option maxRecDepth 100000 in
theorem c_X0_isSole_n (l : Launch) (D : DD) (n0 : Nat) (κ μ : KH) (o : Int64)  : HM l D n0 yX0_isSole cX0_isSole 2 (some .boolean) 1 21 [.ref (n0 + 106), .int ((-1))] (κ, μ, o) (some (.int 0)) (κ, μ, o) := by
  refine HM.of (by decide) (by simp [Value.category]) (by simp) (Or.inr (Or.inl ⟨_, .boolean, rfl, rfl, (by decide +kernel)⟩)) ?_
  intro pp ee ss mm aa bb me cd Q C K hret
  show ZZ pp l ee (rmk 1 21) ss mm aa bb me cd D n0 127 2 0 0 Q _ 0 [some (.ref (n0 + 106)), some (.int ((-1)))] []
  refine z_aload_n C rfl dX0_isSole_0 ?_
  refine gf_X0_9 C dX0_isSole_1 ?_
  refine z_iload_n C rfl dX0_isSole_4 ?_
  refine z_callV (As := [.int ((-1))]) (r := (some (.int 0))) (σ1 := (κ, μ, o)) (st := []) (st1 := [.int 0]) C K ok_X0_29 (c_X2_usesOf_n l D n0 κ μ o 1 (Or.inl rfl)) (enc_S (Or.inl rfl)) (isS_lt (Or.inl rfl)) rfl rfl ⟨by decide, by decide⟩ ⟨Nat.zero_le _, Nat.zero_le _⟩ (by simp [Value.category]) dX0_isSole_5 rfl rfl ?_
  refine z_iconst (v := 1) C (by decide +kernel) dX0_isSole_8 ?_
  refine z_icmp_ne (tgt := 36) C dX0_isSole_9 (by decide) (fun h_9 => ?_) (fun h_9 => ?_)
  · skip
    refine z_iconst (v := 0) C (by decide +kernel) dX0_isSole_36 ?_
    exact z_endI (hret _ _ dX0_isSole_37) rfl rfl
  · exact absurd h_9 (by decide +kernel)
set_option maxHeartbeats 4000000 in
set_option maxRecDepth 100000 in
theorem c_X0_isSole (l : Launch) (D : DD) (n0 : Nat) (κ μ : KH) (o : Int64) (e : Nat) (he : e < 96) : HM l D n0 yX0_isSole cX0_isSole 2 (some .boolean) 1 21 [.ref (n0 + 106), .int (nI e)] (κ, μ, o) (some (.int (b2i (cSole κ e)))) (κ, μ, o) := by
  refine HM.of (by decide) (by simp [Value.category]) (by simp) (Or.inr (Or.inl ⟨_, .boolean, rfl, rfl, (b2i_nar _)⟩)) ?_
  intro pp ee ss mm aa bb me cd Q C K hret
  show ZZ pp l ee (rmk 1 21) ss mm aa bb me cd D n0 127 2 0 0 Q _ 0 [some (.ref (n0 + 106)), some (.int (nI e))] []
  refine z_aload_n C rfl dX0_isSole_0 ?_
  refine gf_X0_9 C dX0_isSole_1 ?_
  refine z_iload_n C rfl dX0_isSole_4 ?_
  refine z_callV (As := [.int (nI e)]) (r := (some (.int (κ 35 e)))) (σ1 := (κ, μ, o)) (st := []) (st1 := [.int (κ 35 e)]) C K ok_X0_29 (c_X2_usesOf l D n0 κ μ o 1 e (κ 35 e) (Or.inl rfl) (by omega) rfl) (enc_S (Or.inl rfl)) (isS_lt (Or.inl rfl)) rfl rfl ⟨by decide, by decide⟩ ⟨Nat.zero_le _, Nat.zero_le _⟩ (by simp [Value.category]) dX0_isSole_5 rfl rfl ?_
  refine z_iconst (v := 1) C (by decide +kernel) dX0_isSole_8 ?_
  refine z_icmp_ne (tgt := 36) C dX0_isSole_9 (by decide) (fun h_9 => ?_) (fun h_9 => ?_)
  · skip
    refine z_iconst (v := 0) C (by decide +kernel) dX0_isSole_36 ?_
    exact z_endI (hret _ _ dX0_isSole_37) (b2i_0 (by simp only [cSole, Bool.and_eq_false_iff, decide_eq_false_iff_not]; exact Or.inl h_9)) rfl
  · skip
    refine z_aload_n C rfl dX0_isSole_12 ?_
    refine gf_X0_15 C dX0_isSole_13 ?_
    refine z_iload_n C rfl dX0_isSole_16 ?_
    refine z_callV (As := [.int (nI e)]) (r := (some (.int (κ 70 e)))) (σ1 := (κ, μ, o)) (st := []) (st1 := [.int (κ 70 e)]) C K ok_X0_29 (c_X2_usesOf l D n0 κ μ o 36 e (κ 70 e) (Or.inr (Or.inl rfl)) (by omega) rfl) (enc_S (Or.inr (Or.inl rfl))) (isS_lt (Or.inr (Or.inl rfl))) rfl rfl ⟨by decide, by decide⟩ ⟨Nat.zero_le _, Nat.zero_le _⟩ (by simp [Value.category]) dX0_isSole_17 rfl rfl ?_
    refine z_aload_n C rfl dX0_isSole_20 ?_
    refine gf_X0_18 C dX0_isSole_21 ?_
    refine z_iload_n C rfl dX0_isSole_24 ?_
    refine z_callV (As := [.int (nI e)]) (r := (some (.int (κ 105 e)))) (σ1 := (κ, μ, o)) (st := [.int (κ 70 e)]) (st1 := [.int (κ 105 e), .int (κ 70 e)]) C K ok_X0_29 (c_X2_usesOf l D n0 κ μ o 71 e (κ 105 e) (Or.inr (Or.inr rfl)) (by omega) rfl) (enc_S (Or.inr (Or.inr rfl))) (isS_lt (Or.inr (Or.inr rfl))) rfl rfl ⟨by decide, by decide⟩ ⟨Nat.zero_le _, Nat.zero_le _⟩ (by simp [Value.category]) dX0_isSole_25 rfl rfl ?_
    refine z_iadd (v := (κ 70 e) + (κ 105 e)) C rfl dX0_isSole_28 ?_
    refine z_if_ne (tgt := 36) C dX0_isSole_29 (by decide) (fun h_29 => ?_) (fun h_29 => ?_)
    · skip
      refine z_iconst (v := 0) C (by decide +kernel) dX0_isSole_36 ?_
      exact z_endI (hret _ _ dX0_isSole_37) (b2i_0 (by simp only [cSole, Bool.and_eq_false_iff, decide_eq_false_iff_not]; exact Or.inr h_29)) rfl
    · skip
      refine z_iconst (v := 1) C (by decide +kernel) dX0_isSole_32 ?_
      refine z_goto (tgt := 37) C dX0_isSole_33 (by decide) ?_
      exact z_endI (hret _ _ dX0_isSole_37) (b2i_1 (by simp only [cSole, Bool.and_eq_true, decide_eq_true_eq]; exact ⟨h_9, h_29⟩)) rfl
set_option maxHeartbeats 4000000 in
set_option maxRecDepth 100000 in
theorem c_X0_areFree_m (l : Launch) (D : DD) (n0 : Nat) (κ μ : KH) (o : Int64) (a c i0 : Nat) (hc : c ≤ 96) (hi0 : a + i0 < c) (hfr : ∀ i, i < i0 → cFree κ (a + i) = true) (hnf : cFree κ (a + i0) = false) : HM l D n0 yX0_areFree cX0_areFree 4 (some .boolean) 2 42 [.ref (n0 + 106), .int (nI a), .int (nI c)] (κ, μ, o) (some (.int 0)) (κ, μ, o) := by
  refine HM.of (by decide) (by simp [Value.category]) (by simp) (Or.inr (Or.inl ⟨_, .boolean, rfl, rfl, (by decide +kernel)⟩)) ?_
  intro pp ee ss mm aa bb me cd Q C K hret
  show ZZ pp l ee (rmk 2 42) ss mm aa bb me cd D n0 127 4 0 0 Q _ 0 [some (.ref (n0 + 106)), some (.int (nI a)), some (.int (nI c)), none] []
  refine z_iload_n C rfl dX0_areFree_0 ?_
  refine z_istore_n (ls' := [some (.ref (n0 + 106)), some (.int (nI a)), some (.int (nI c)), some (.int (nI a))]) C (by decide) rfl dX0_areFree_1 ?_
  refine z_cast (σ1 := (κ, μ, o)) (ls' := [some (.ref (n0 + 106)), some (.int (nI a)), some (.int (nI c)), some (.int (nI (a + 0)))]) (st' := []) (z_for (P := fun i => ZZ pp l ee (rmk 2 42) ss mm aa bb me cd D n0 127 4 0 0 Q (κ, μ, o) 2 [some (.ref (n0 + 106)), some (.int (nI a)), some (.int (nI c)), some (.int (nI (a + i)))] []) (i0) ?_ ?_ 0 (Nat.zero_le _)) rfl ⟨rfl, rfl, rfl, (so_int rfl), trivial⟩ rfl
  · skip
    refine z_iload_n C rfl dX0_areFree_2 ?_
    refine z_iload_n C rfl dX0_areFree_3 ?_
    refine z_icmp_ge (tgt := 23) C dX0_areFree_4 (by decide) (fun h_4 => ?_) (fun h_4 => ?_)
    · have g_4 := cv_le (a := c) (b := a + i0) (by omega) (by omega) h_4
      exact absurd g_4 (by omega)
    · have g_4 := cv_nle (a := c) (b := a + i0) (by omega) (by omega) h_4
      refine z_aload_n C rfl dX0_areFree_7 ?_
      refine z_iload_n C rfl dX0_areFree_8 ?_
      refine z_callV (As := [.int (nI (a + i0))]) (r := (some (.int (b2i (cFree κ (a + i0)))))) (σ1 := (κ, μ, o)) (st := []) (st1 := [.int (b2i (cFree κ (a + i0)))]) C K ok_X0_35 (c_X0_isFree l D n0 κ μ o (a + i0) (by omega)) enc_P (by decide) rfl rfl ⟨by decide, by decide⟩ ⟨Nat.zero_le _, Nat.zero_le _⟩ (by simp [Value.category]) dX0_areFree_9 rfl rfl ?_
      refine z_if_ne (tgt := 17) C dX0_areFree_12 (by decide) (fun h_12 => ?_) (fun h_12 => ?_)
      · have g_12 := cv_b1 h_12
        exact absurd g_12 (by rw [hnf]; decide)
      · have g_12 := cv_b0 h_12
        refine z_iconst (v := 0) C (by decide +kernel) dX0_areFree_15 ?_
        exact z_endI (hret _ _ dX0_areFree_16) rfl rfl
  · intro i hi_2 ih_2
    refine z_iload_n C rfl dX0_areFree_2 ?_
    refine z_iload_n C rfl dX0_areFree_3 ?_
    refine z_icmp_ge (tgt := 23) C dX0_areFree_4 (by decide) (fun h_4 => ?_) (fun h_4 => ?_)
    · have g_4 := cv_le (a := c) (b := a + i) (by omega) (by omega) h_4
      exact absurd g_4 (by omega)
    · have g_4 := cv_nle (a := c) (b := a + i) (by omega) (by omega) h_4
      refine z_aload_n C rfl dX0_areFree_7 ?_
      refine z_iload_n C rfl dX0_areFree_8 ?_
      refine z_callV (As := [.int (nI (a + i))]) (r := (some (.int (b2i (cFree κ (a + i)))))) (σ1 := (κ, μ, o)) (st := []) (st1 := [.int (b2i (cFree κ (a + i)))]) C K ok_X0_35 (c_X0_isFree l D n0 κ μ o (a + i) (by omega)) enc_P (by decide) rfl rfl ⟨by decide, by decide⟩ ⟨Nat.zero_le _, Nat.zero_le _⟩ (by simp [Value.category]) dX0_areFree_9 rfl rfl ?_
      refine z_if_ne (tgt := 17) C dX0_areFree_12 (by decide) (fun h_12 => ?_) (fun h_12 => ?_)
      · have g_12 := cv_b1 h_12
        refine z_iinc (v := nI (a + i + 1)) (ls' := [some (.ref (n0 + 106)), some (.int (nI a)), some (.int (nI c)), some (.int (nI (a + i + 1)))]) C rfl (cv_inc (a + i) 1) (by decide) rfl dX0_areFree_17 ?_
        refine z_goto (tgt := 2) C dX0_areFree_20 (by decide) ?_
        exact z_cast (σ1 := (κ, μ, o)) (ls' := [some (.ref (n0 + 106)), some (.int (nI a)), some (.int (nI c)), some (.int (nI (a + (i + 1))))]) (st' := []) (ih_2) rfl ⟨rfl, rfl, rfl, (so_int rfl), trivial⟩ rfl
      · have g_12 := cv_b0 h_12
        exact absurd (hfr i hi_2) (by rw [g_12]; decide)
set_option maxHeartbeats 4000000 in
set_option maxRecDepth 100000 in
theorem c_X0_areFree (l : Launch) (D : DD) (n0 : Nat) (κ μ : KH) (o : Int64) (a c : Nat) (hc : c ≤ 96) (ha : a ≤ c) (hfr : ∀ i, i < c - a → cFree κ (a + i) = true) : HM l D n0 yX0_areFree cX0_areFree 4 (some .boolean) 2 42 [.ref (n0 + 106), .int (nI a), .int (nI c)] (κ, μ, o) (some (.int 1)) (κ, μ, o) := by
  refine HM.of (by decide) (by simp [Value.category]) (by simp) (Or.inr (Or.inl ⟨_, .boolean, rfl, rfl, (by decide +kernel)⟩)) ?_
  intro pp ee ss mm aa bb me cd Q C K hret
  show ZZ pp l ee (rmk 2 42) ss mm aa bb me cd D n0 127 4 0 0 Q _ 0 [some (.ref (n0 + 106)), some (.int (nI a)), some (.int (nI c)), none] []
  refine z_iload_n C rfl dX0_areFree_0 ?_
  refine z_istore_n (ls' := [some (.ref (n0 + 106)), some (.int (nI a)), some (.int (nI c)), some (.int (nI a))]) C (by decide) rfl dX0_areFree_1 ?_
  refine z_cast (σ1 := (κ, μ, o)) (ls' := [some (.ref (n0 + 106)), some (.int (nI a)), some (.int (nI c)), some (.int (nI (a + 0)))]) (st' := []) (z_for (P := fun i => ZZ pp l ee (rmk 2 42) ss mm aa bb me cd D n0 127 4 0 0 Q (κ, μ, o) 2 [some (.ref (n0 + 106)), some (.int (nI a)), some (.int (nI c)), some (.int (nI (a + i)))] []) (c - a) ?_ ?_ 0 (Nat.zero_le _)) rfl ⟨rfl, rfl, rfl, (so_int rfl), trivial⟩ rfl
  · skip
    refine z_iload_n C rfl dX0_areFree_2 ?_
    refine z_iload_n C rfl dX0_areFree_3 ?_
    refine z_icmp_ge (tgt := 23) C dX0_areFree_4 (by decide) (fun h_4 => ?_) (fun h_4 => ?_)
    · have g_4 := cv_le (a := c) (b := a + (c - a)) (by omega) (by omega) h_4
      refine z_iconst (v := 1) C (by decide +kernel) dX0_areFree_23 ?_
      exact z_endI (hret _ _ dX0_areFree_24) rfl rfl
    · have g_4 := cv_nle (a := c) (b := a + (c - a)) (by omega) (by omega) h_4
      exact absurd g_4 (by omega)
  · intro i hi_2 ih_2
    refine z_iload_n C rfl dX0_areFree_2 ?_
    refine z_iload_n C rfl dX0_areFree_3 ?_
    refine z_icmp_ge (tgt := 23) C dX0_areFree_4 (by decide) (fun h_4 => ?_) (fun h_4 => ?_)
    · have g_4 := cv_le (a := c) (b := a + i) (by omega) (by omega) h_4
      exact absurd hi_2 (by omega)
    · have g_4 := cv_nle (a := c) (b := a + i) (by omega) (by omega) h_4
      refine z_aload_n C rfl dX0_areFree_7 ?_
      refine z_iload_n C rfl dX0_areFree_8 ?_
      refine z_callV (As := [.int (nI (a + i))]) (r := (some (.int (b2i (cFree κ (a + i)))))) (σ1 := (κ, μ, o)) (st := []) (st1 := [.int (b2i (cFree κ (a + i)))]) C K ok_X0_35 (c_X0_isFree l D n0 κ μ o (a + i) (by omega)) enc_P (by decide) rfl rfl ⟨by decide, by decide⟩ ⟨Nat.zero_le _, Nat.zero_le _⟩ (by simp [Value.category]) dX0_areFree_9 rfl rfl ?_
      refine z_if_ne (tgt := 17) C dX0_areFree_12 (by decide) (fun h_12 => ?_) (fun h_12 => ?_)
      · have g_12 := cv_b1 h_12
        refine z_iinc (v := nI (a + i + 1)) (ls' := [some (.ref (n0 + 106)), some (.int (nI a)), some (.int (nI c)), some (.int (nI (a + i + 1)))]) C rfl (cv_inc (a + i) 1) (by decide) rfl dX0_areFree_17 ?_
        refine z_goto (tgt := 2) C dX0_areFree_20 (by decide) ?_
        exact z_cast (σ1 := (κ, μ, o)) (ls' := [some (.ref (n0 + 106)), some (.int (nI a)), some (.int (nI c)), some (.int (nI (a + (i + 1))))]) (st' := []) (ih_2) rfl ⟨rfl, rfl, rfl, (so_int rfl), trivial⟩ rfl
      · have g_12 := cv_b0 h_12
        exact absurd (hfr i hi_2) (by rw [g_12]; decide)
set_option maxHeartbeats 4000000 in
set_option maxRecDepth 100000 in
theorem c_X0_countFree (l : Launch) (D : DD) (n0 : Nat) (κ μ : KH) (o : Int64) (n : Nat) (hE : κ 106 0 = nI n) (hn : n ≤ 96) : HM l D n0 yX0_countFree cX0_countFree 3 (some .int) 2 42 [.ref (n0 + 106)] (κ, μ, o) (some (.int (nI (cFM κ n)))) (κ, μ, o) := by
  refine HM.of (by decide) (by simp [Value.category]) (by simp) (Or.inr (Or.inl ⟨_, .int, rfl, rfl, rfl⟩)) ?_
  intro pp ee ss mm aa bb me cd Q C K hret
  show ZZ pp l ee (rmk 2 42) ss mm aa bb me cd D n0 127 3 0 0 Q _ 0 [some (.ref (n0 + 106)), none, none] []
  refine z_iconst (v := 0) C (by decide +kernel) dX0_countFree_0 ?_
  refine z_istore_n (ls' := [some (.ref (n0 + 106)), some (.int 0), none]) C (by decide) rfl dX0_countFree_1 ?_
  refine z_iconst (v := 0) C (by decide +kernel) dX0_countFree_2 ?_
  refine z_istore_n (ls' := [some (.ref (n0 + 106)), some (.int 0), some (.int 0)]) C (by decide) rfl dX0_countFree_3 ?_
  refine z_cast (σ1 := (κ, μ, o)) (ls' := [some (.ref (n0 + 106)), some (.int (nI (sumTo (cFr1 κ) 0))), some (.int (nI 0))]) (st' := []) (z_for (P := fun i => ZZ pp l ee (rmk 2 42) ss mm aa bb me cd D n0 127 3 0 0 Q (κ, μ, o) 4 [some (.ref (n0 + 106)), some (.int (nI (sumTo (cFr1 κ) i))), some (.int (nI i))] []) (n) ?_ ?_ 0 (Nat.zero_le _)) rfl ⟨rfl, (so_int rfl), rfl, trivial⟩ rfl
  · skip
    refine z_iload_n C rfl dX0_countFree_4 ?_
    refine z_aload_n C rfl dX0_countFree_5 ?_
    refine gf_X0_25 (v := nI n) C hE dX0_countFree_6 ?_
    refine z_icmp_ge (tgt := 29) C dX0_countFree_9 (by decide) (fun h_9 => ?_) (fun h_9 => ?_)
    · have g_9 := cv_le (a := n) (b := n) (by omega) (by omega) h_9
      refine z_iload_n C rfl dX0_countFree_29 ?_
      exact z_endI (hret _ _ dX0_countFree_30) rfl rfl
    · have g_9 := cv_nle (a := n) (b := n) (by omega) (by omega) h_9
      exact absurd g_9 (by omega)
  · intro i hi_4 ih_4
    refine z_iload_n C rfl dX0_countFree_4 ?_
    refine z_aload_n C rfl dX0_countFree_5 ?_
    refine gf_X0_25 (v := nI n) C hE dX0_countFree_6 ?_
    refine z_icmp_ge (tgt := 29) C dX0_countFree_9 (by decide) (fun h_9 => ?_) (fun h_9 => ?_)
    · have g_9 := cv_le (a := n) (b := i) (by omega) (by omega) h_9
      exact absurd hi_4 (by omega)
    · have g_9 := cv_nle (a := n) (b := i) (by omega) (by omega) h_9
      refine z_aload_n C rfl dX0_countFree_12 ?_
      refine z_iload_n C rfl dX0_countFree_13 ?_
      refine z_callV (As := [.int (nI i)]) (r := (some (.int (b2i (cFree κ i))))) (σ1 := (κ, μ, o)) (st := []) (st1 := [.int (b2i (cFree κ i))]) C K ok_X0_35 (c_X0_isFree l D n0 κ μ o i (by omega)) enc_P (by decide) rfl rfl ⟨by decide, by decide⟩ ⟨Nat.zero_le _, Nat.zero_le _⟩ (by simp [Value.category]) dX0_countFree_14 rfl rfl ?_
      refine z_if_eq (tgt := 23) C dX0_countFree_17 (by decide) (fun h_17 => ?_) (fun h_17 => ?_)
      · have g_17 := cv_b0 h_17
        refine z_iinc (v := nI (i + 1)) (ls' := [some (.ref (n0 + 106)), some (.int (nI (sumTo (cFr1 κ) i))), some (.int (nI (i + 1)))]) C rfl (cv_inc i 1) (by decide) rfl dX0_countFree_23 ?_
        refine z_goto (tgt := 4) C dX0_countFree_26 (by decide) ?_
        exact z_cast (σ1 := (κ, μ, o)) (ls' := [some (.ref (n0 + 106)), some (.int (nI (sumTo (cFr1 κ) (i + 1)))), some (.int (nI (i + 1)))]) (st' := []) (ih_4) rfl ⟨rfl, (so_int (by simp [sumTo, cFr1, g_17])), rfl, trivial⟩ rfl
      · have g_17 := cv_b1 h_17
        refine z_iinc (v := nI (sumTo (cFr1 κ) i + 1)) (ls' := [some (.ref (n0 + 106)), some (.int (nI (sumTo (cFr1 κ) i + 1))), some (.int (nI i))]) C rfl (cv_inc (sumTo (cFr1 κ) i) 1) (by decide) rfl dX0_countFree_20 ?_
        refine z_iinc (v := nI (i + 1)) (ls' := [some (.ref (n0 + 106)), some (.int (nI (sumTo (cFr1 κ) i + 1))), some (.int (nI (i + 1)))]) C rfl (cv_inc i 1) (by decide) rfl dX0_countFree_23 ?_
        refine z_goto (tgt := 4) C dX0_countFree_26 (by decide) ?_
        exact z_cast (σ1 := (κ, μ, o)) (ls' := [some (.ref (n0 + 106)), some (.int (nI (sumTo (cFr1 κ) (i + 1)))), some (.int (nI (i + 1)))]) (st' := []) (ih_4) rfl ⟨rfl, (so_int (by simp [sumTo, cFr1, g_17])), rfl, trivial⟩ rfl
set_option maxHeartbeats 4000000 in
set_option maxRecDepth 100000 in
theorem c_X0_take (l : Launch) (D : DD) (n0 : Nat) (κ μ : KH) (o : Int64) (n x : Nat) (hE : κ 106 0 = nI n) (hn : n ≤ 96) (hc : κ 106 1 = nI (tn (κ 106 1))) (hcu : tn (κ 106 1) < n) (hr : cRch κ n n (tn (κ 106 1))) (hX : cFnd κ n n (tn (κ 106 1)) = x) : HM l D n0 yX0_take cX0_take 4 (some .int) 2 42 [.ref (n0 + 106)] (κ, μ, o) (some (.int (nI x))) (cTk κ n x, μ, o) := by
  refine HM.of (by decide) (by simp [Value.category]) (by simp) (Or.inr (Or.inl ⟨_, .int, rfl, rfl, rfl⟩)) ?_
  intro pp ee ss mm aa bb me cd Q C K hret
  show ZZ pp l ee (rmk 2 42) ss mm aa bb me cd D n0 127 4 0 0 Q _ 0 [some (.ref (n0 + 106)), none, none, none] []
  refine z_aload_n C rfl dX0_take_0 ?_
  refine gf_X0_39 (v := nI (tn (κ 106 1))) C hc dX0_take_1 ?_
  refine z_istore_n (ls' := [some (.ref (n0 + 106)), some (.int (nI (tn (κ 106 1)))), none, none]) C (by decide) rfl dX0_take_4 ?_
  refine z_iconst (v := 0) C (by decide +kernel) dX0_take_5 ?_
  refine z_istore_n (ls' := [some (.ref (n0 + 106)), some (.int (nI (tn (κ 106 1)))), some (.int 0), none]) C (by decide) rfl dX0_take_6 ?_
  have hl_7 : ∀ (k : Nat) (e : Nat), k ≤ n → e < n → cRch κ n k e → cFnd κ n k e = x → ZZ pp l ee (rmk 2 42) ss mm aa bb me cd D n0 127 4 0 0 Q (κ, μ, o) 7 [some (.ref (n0 + 106)), some (.int (nI e)), some (.int (nI (n - k))), none] [] := by
    intro k
    induction k with
    | zero =>
      intro e hkn he hr hX
      refine z_iload_n C rfl dX0_take_7 ?_
      refine z_aload_n C rfl dX0_take_8 ?_
      refine gf_X0_25 (v := nI n) C hE dX0_take_9 ?_
      refine z_icmp_ge (tgt := 66) C dX0_take_12 (by decide) (fun h_12 => ?_) (fun h_12 => ?_)
      · have g_12 := cv_le (a := n) (b := n - 0) (by omega) (by omega) h_12
        exact hr.elim
      · have g_12 := cv_nle (a := n) (b := n - 0) (by omega) (by omega) h_12
        exact absurd g_12 (by omega)
    | succ k ih =>
      intro e hkn he hr hX
      refine z_iload_n C rfl dX0_take_7 ?_
      refine z_aload_n C rfl dX0_take_8 ?_
      refine gf_X0_25 (v := nI n) C hE dX0_take_9 ?_
      refine z_icmp_ge (tgt := 66) C dX0_take_12 (by decide) (fun h_12 => ?_) (fun h_12 => ?_)
      · have g_12 := cv_le (a := n) (b := n - (k + 1)) (by omega) (by omega) h_12
        exact absurd g_12 (by omega)
      · have g_12 := cv_nle (a := n) (b := n - (k + 1)) (by omega) (by omega) h_12
        refine z_iload_n C rfl dX0_take_15 ?_
        refine z_iconst (v := 1) C (by decide +kernel) dX0_take_16 ?_
        refine z_iadd (v := nI (e + 1)) C (cv_add e 1) dX0_take_17 ?_
        refine z_aload_n C rfl dX0_take_18 ?_
        refine gf_X0_25 (v := nI n) C hE dX0_take_19 ?_
        refine z_icmp_ge (tgt := 31) C dX0_take_22 (by decide) (fun h_22 => ?_) (fun h_22 => ?_)
        · have g_22 := cv_le (a := n) (b := e + 1) (by omega) (by omega) h_22
          refine z_iconst (v := 0) C (by decide +kernel) dX0_take_31 ?_
          refine z_istore_n (ls' := [some (.ref (n0 + 106)), some (.int (nI e)), some (.int (nI (n - (k + 1)))), some (.int 0)]) C (by decide) rfl dX0_take_32 ?_
          refine z_aload_n C rfl dX0_take_33 ?_
          refine z_iload_n C rfl dX0_take_34 ?_
          refine z_callV (As := [.int (nI e)]) (r := (some (.int (b2i (cFree κ e))))) (σ1 := (κ, μ, o)) (st := []) (st1 := [.int (b2i (cFree κ e))]) C K ok_X0_35 (c_X0_isFree l D n0 κ μ o e (by omega)) enc_P (by decide) rfl rfl ⟨by decide, by decide⟩ ⟨Nat.zero_le _, Nat.zero_le _⟩ (by simp [Value.category]) dX0_take_35 rfl rfl ?_
          refine z_if_eq (tgt := 58) C dX0_take_38 (by decide) (fun h_38 => ?_) (fun h_38 => ?_)
          · have g_38 := cv_b0 h_38
            refine z_iload_n C rfl dX0_take_58 ?_
            refine z_istore_n (ls' := [some (.ref (n0 + 106)), some (.int 0), some (.int (nI (n - (k + 1)))), some (.int 0)]) C (by decide) rfl dX0_take_59 ?_
            refine z_iinc (v := nI (n - (k + 1) + 1)) (ls' := [some (.ref (n0 + 106)), some (.int 0), some (.int (nI (n - (k + 1) + 1))), some (.int 0)]) C rfl (cv_inc (n - (k + 1)) 1) (by decide) rfl dX0_take_60 ?_
            refine z_goto (tgt := 7) C dX0_take_63 (by decide) ?_
            exact z_cast (ih (nx n e) (by omega) (by unfold nx; split <;> omega) (hr.resolve_left (by rw [g_38]; decide)) (by rw [← hX, cFnd, if_neg (by rw [g_38]; decide)])) rfl ⟨rfl, (so_int (by unfold nx; rw [if_pos (by omega)]; try rfl)), (so_int (by congr 1; omega)), trivial⟩ rfl
          · have g_38 := cv_b1 h_38
            refine z_aload_n C rfl dX0_take_41 ?_
            refine z_iload_n C rfl dX0_take_42 ?_
            refine pf_X0_39 (x := 0) C dX0_take_43 ?_
            refine z_aload_n C rfl dX0_take_46 ?_
            refine z_dup C rfl dX0_take_47 ?_
            refine gf_X0_42 (v := κ 106 4) C rfl dX0_take_48 ?_
            refine z_iconst (v := 1) C (by decide +kernel) dX0_take_51 ?_
            refine z_iadd (v := (κ 106 4) + 1) C rfl dX0_take_52 ?_
            refine pf_X0_42 (x := (κ 106 4) + 1) C dX0_take_53 ?_
            refine z_iload_n C rfl dX0_take_56 ?_
            exact z_endI (hret _ _ dX0_take_57) (by rw [← hX, cFnd, if_pos g_38]) (st_k (by rw [← hX, cFnd, if_pos g_38]; unfold cTk nx; rw [if_pos (by omega)]; try rfl))
        · have g_22 := cv_nle (a := n) (b := e + 1) (by omega) (by omega) h_22
          refine z_iload_n C rfl dX0_take_25 ?_
          refine z_iconst (v := 1) C (by decide +kernel) dX0_take_26 ?_
          refine z_iadd (v := nI (e + 1)) C (cv_add e 1) dX0_take_27 ?_
          refine z_goto (tgt := 32) C dX0_take_28 (by decide) ?_
          refine z_istore_n (ls' := [some (.ref (n0 + 106)), some (.int (nI e)), some (.int (nI (n - (k + 1)))), some (.int (nI (e + 1)))]) C (by decide) rfl dX0_take_32 ?_
          refine z_aload_n C rfl dX0_take_33 ?_
          refine z_iload_n C rfl dX0_take_34 ?_
          refine z_callV (As := [.int (nI e)]) (r := (some (.int (b2i (cFree κ e))))) (σ1 := (κ, μ, o)) (st := []) (st1 := [.int (b2i (cFree κ e))]) C K ok_X0_35 (c_X0_isFree l D n0 κ μ o e (by omega)) enc_P (by decide) rfl rfl ⟨by decide, by decide⟩ ⟨Nat.zero_le _, Nat.zero_le _⟩ (by simp [Value.category]) dX0_take_35 rfl rfl ?_
          refine z_if_eq (tgt := 58) C dX0_take_38 (by decide) (fun h_38 => ?_) (fun h_38 => ?_)
          · have g_38 := cv_b0 h_38
            refine z_iload_n C rfl dX0_take_58 ?_
            refine z_istore_n (ls' := [some (.ref (n0 + 106)), some (.int (nI (e + 1))), some (.int (nI (n - (k + 1)))), some (.int (nI (e + 1)))]) C (by decide) rfl dX0_take_59 ?_
            refine z_iinc (v := nI (n - (k + 1) + 1)) (ls' := [some (.ref (n0 + 106)), some (.int (nI (e + 1))), some (.int (nI (n - (k + 1) + 1))), some (.int (nI (e + 1)))]) C rfl (cv_inc (n - (k + 1)) 1) (by decide) rfl dX0_take_60 ?_
            refine z_goto (tgt := 7) C dX0_take_63 (by decide) ?_
            exact z_cast (ih (nx n e) (by omega) (by unfold nx; split <;> omega) (hr.resolve_left (by rw [g_38]; decide)) (by rw [← hX, cFnd, if_neg (by rw [g_38]; decide)])) rfl ⟨rfl, (so_int (by unfold nx; rw [if_neg (by omega)]; try rfl)), (so_int (by congr 1; omega)), trivial⟩ rfl
          · have g_38 := cv_b1 h_38
            refine z_aload_n C rfl dX0_take_41 ?_
            refine z_iload_n C rfl dX0_take_42 ?_
            refine pf_X0_39 (x := nI (e + 1)) C dX0_take_43 ?_
            refine z_aload_n C rfl dX0_take_46 ?_
            refine z_dup C rfl dX0_take_47 ?_
            refine gf_X0_42 (v := κ 106 4) C rfl dX0_take_48 ?_
            refine z_iconst (v := 1) C (by decide +kernel) dX0_take_51 ?_
            refine z_iadd (v := (κ 106 4) + 1) C rfl dX0_take_52 ?_
            refine pf_X0_42 (x := (κ 106 4) + 1) C dX0_take_53 ?_
            refine z_iload_n C rfl dX0_take_56 ?_
            exact z_endI (hret _ _ dX0_take_57) (by rw [← hX, cFnd, if_pos g_38]) (st_k (by rw [← hX, cFnd, if_pos g_38]; unfold cTk nx; rw [if_neg (by omega)]; try rfl))
  exact z_cast (hl_7 n (tn (κ 106 1)) (Nat.le_refl _) hcu hr hX) rfl ⟨rfl, rfl, (so_int (by rw [Nat.sub_self]; rfl)), trivial⟩ rfl
set_option maxHeartbeats 4000000 in
set_option maxRecDepth 100000 in
theorem c_X0_wordAt (l : Launch) (D : DD) (n0 : Nat) (κ μ : KH) (o : Int64) (e i : Nat) (x : Int32) (he : e < 96) (hi : i < 4) (hx : κ 107 (e * 4 + i) = x) : HM l D n0 yX0_wordAt cX0_wordAt 4 (some .int) 0 0 [.ref (n0 + 106), .int (nI e), .int (nI i)] (κ, μ, o) (some (.int x)) (κ, μ, o) := by
  refine HM.of (by decide) (by simp [Value.category]) (by simp) (Or.inr (Or.inl ⟨_, .int, rfl, rfl, rfl⟩)) ?_
  intro pp ee ss mm aa bb me cd Q C K hret
  show ZZ pp l ee (rmk 0 0) ss mm aa bb me cd D n0 127 4 0 0 Q _ 0 [some (.ref (n0 + 106)), some (.int (nI e)), some (.int (nI i)), none] []
  refine z_iload_n C rfl dX0_wordAt_0 ?_
  refine z_iconst (v := 4) C (by decide +kernel) dX0_wordAt_1 ?_
  refine z_imul (v := nI (e * 4)) C (cv_mul e 4) dX0_wordAt_2 ?_
  refine z_iload_n C rfl dX0_wordAt_3 ?_
  refine z_iadd (v := nI (e * 4 + i)) C (cv_add (e * 4) i) dX0_wordAt_4 ?_
  refine z_istore_n (ls' := [some (.ref (n0 + 106)), some (.int (nI e)), some (.int (nI i)), some (.int (nI (e * 4 + i)))]) C (by decide) rfl dX0_wordAt_5 ?_
  refine z_iload_n C rfl dX0_wordAt_6 ?_
  refine z_if_lt (tgt := 28) C dX0_wordAt_7 (by decide) (fun h_7 => ?_) (fun h_7 => ?_)
  · exact absurd h_7 (nI_pos (by omega))
  · skip
    refine z_iload_n C rfl dX0_wordAt_10 ?_
    refine z_aload_n C rfl dX0_wordAt_11 ?_
    refine gf_X0_21 C dX0_wordAt_12 ?_
    refine an_107 C dX0_wordAt_15 ?_
    refine z_icmp_ge (tgt := 28) C dX0_wordAt_16 (by decide) (fun h_16 => ?_) (fun h_16 => ?_)
    · have g_16 := cv_le (a := 384) (b := e * 4 + i) (by omega) (by omega) h_16
      exact absurd g_16 (by omega)
    · have g_16 := cv_nle (a := 384) (b := e * 4 + i) (by omega) (by omega) h_16
      refine z_aload_n C rfl dX0_wordAt_19 ?_
      refine gf_X0_21 C dX0_wordAt_20 ?_
      refine z_iload_n C rfl dX0_wordAt_23 ?_
      refine al_107 (v := x) C (e * 4 + i) rfl (by omega) hx dX0_wordAt_24 ?_
      refine z_goto (tgt := 29) C dX0_wordAt_25 (by decide) ?_
      exact z_endI (hret _ _ dX0_wordAt_29) rfl rfl
set_option maxHeartbeats 4000000 in
set_option maxRecDepth 100000 in
theorem c_X0_setWord (l : Launch) (D : DD) (n0 : Nat) (κ μ : KH) (o : Int64) (e i : Nat) (x : Int32) (he : e < 96) (hi : i < 4) : HM l D n0 yX0_setWord cX0_setWord 5 none 0 0 [.ref (n0 + 106), .int (nI e), .int (nI i), .int x] (κ, μ, o) none (up κ 107 (e * 4 + i) x, μ, o) := by
  refine HM.of (by decide) (by simp [Value.category]) (by simp) (Or.inl ⟨rfl, rfl⟩) ?_
  intro pp ee ss mm aa bb me cd Q C K hret
  show ZZ pp l ee (rmk 0 0) ss mm aa bb me cd D n0 127 5 0 0 Q _ 0 [some (.ref (n0 + 106)), some (.int (nI e)), some (.int (nI i)), some (.int x), none] []
  refine z_iload_n C rfl dX0_setWord_0 ?_
  refine z_iconst (v := 4) C (by decide +kernel) dX0_setWord_1 ?_
  refine z_imul (v := nI (e * 4)) C (cv_mul e 4) dX0_setWord_2 ?_
  refine z_iload_n C rfl dX0_setWord_3 ?_
  refine z_iadd (v := nI (e * 4 + i)) C (cv_add (e * 4) i) dX0_setWord_4 ?_
  refine z_istore (ls' := [some (.ref (n0 + 106)), some (.int (nI e)), some (.int (nI i)), some (.int x), some (.int (nI (e * 4 + i)))]) C (by decide) rfl dX0_setWord_5 ?_
  refine z_iload C rfl dX0_setWord_7 ?_
  refine z_if_lt (tgt := 30) C dX0_setWord_9 (by decide) (fun h_9 => ?_) (fun h_9 => ?_)
  · exact absurd h_9 (nI_pos (by omega))
  · skip
    refine z_iload C rfl dX0_setWord_12 ?_
    refine z_aload_n C rfl dX0_setWord_14 ?_
    refine gf_X0_21 C dX0_setWord_15 ?_
    refine an_107 C dX0_setWord_18 ?_
    refine z_icmp_ge (tgt := 30) C dX0_setWord_19 (by decide) (fun h_19 => ?_) (fun h_19 => ?_)
    · have g_19 := cv_le (a := 384) (b := e * 4 + i) (by omega) (by omega) h_19
      exact absurd g_19 (by omega)
    · have g_19 := cv_nle (a := 384) (b := e * 4 + i) (by omega) (by omega) h_19
      refine z_aload_n C rfl dX0_setWord_22 ?_
      refine gf_X0_21 C dX0_setWord_23 ?_
      refine z_iload C rfl dX0_setWord_26 ?_
      refine z_iload_n C rfl dX0_setWord_28 ?_
      refine as_107 (x := x) C (e * 4 + i) rfl (by omega) dX0_setWord_29 ?_
      exact z_endV (hret _ _ dX0_setWord_30) rfl
