theorem mTick_1 {y : KH} {s : Int32} (h : ¬ y 0 16 = 1) : mTick y s = (up (up y 0 20 (y 0 20 + s)) 0 19 (y 0 19 + 0), 0) := if_neg h
theorem mTick_2 {y : KH} {s : Int32} (h : y 0 16 = 1) (h2 : y 0 19 + s < y 0 18) : mTick y s = (up (up y 0 20 (y 0 20 + s)) 0 19 (y 0 19 + s), 0) := (if_pos h).trans (if_pos h2)
theorem mTick_3 {y : KH} {s : Int32} (h : y 0 16 = 1) (h2 : y 0 18 ≤ y 0 19 + s) : mTick y s = (up (up (up (up (up y 0 20 (y 0 20 + s)) 0 19 (y 0 19 + s)) 0 21 (y 0 21 + y 0 23)) 0 23 0) 0 16 2, y 0 23) := (if_pos h).trans (if_neg (Int32.not_lt.mpr h2))
def mCut (x : KH) : KH := up (up (up (up (mCp x 1 0) 0 21 (mCp x 1 0 0 21 + mCp x 1 0 0 23)) 0 23 0) 0 16 0) 0 12 0
def okM (s v p : Int32) : Prop := ∃ i j k : Nat, i < 3 ∧ s = nI i ∧ j < 16 ∧ v = nI j ∧ k < 40 ∧ p = nI k
def okE (μ : KH) (e : Int32) : Prop := ∃ k : Nat, k < nE μ ∧ e = nI k
theorem nI_lit {s : Int32} {b : Nat} (h1 : ¬ s < 0) (h2 : s ≤ nI b) (hb : b < 2 ^ 31) : ∃ k : Nat, k ≤ b ∧ s = nI k := by
  obtain ⟨k, hk, rfl⟩ := nI_of h1
  exact ⟨k, (nI_leI hk hb).mp h2, rfl⟩
theorem nI_lit2 {s : Int32} {b : Nat} (h1 : ¬ s < 0) (h2 : s < nI b) (hb : b < 2 ^ 31) : ∃ k : Nat, k < b ∧ s = nI k := by
  obtain ⟨k, hk, rfl⟩ := nI_of h1
  exact ⟨k, (nI_ltI hk hb).mp h2, rfl⟩
set_option maxHeartbeats 4000000 in
set_option maxRecDepth 100000 in
theorem c_X5_grow_1 (l : Launch) (D : DD) (n0 : Nat) (κ μ : KH) (o : Int64) (n : Int32) (h0 : n < 0) : HM l D n0 yX5_grow cX5_grow 2 (some .int) 0 0 [.ref (n0 + 113), .int n] (κ, μ, o) (some (.int 0)) (κ, up μ 0 0 1, o) := by
  refine HM.of (by decide) (by simp [Value.category]) (by simp) (Or.inr (Or.inl ⟨_, .int, rfl, rfl, rfl⟩)) ?_
  intro pp ee ss mm aa bb me cd Q C K hret
  show ZZ pp l ee (rmk 0 0) ss mm aa bb me cd D n0 127 2 0 0 Q _ 0 [some (.ref (n0 + 113)), some (.int n)] []
  refine z_aload_n C rfl dX5_grow_0 ?_
  refine z_iload_n C rfl dX5_grow_1 ?_
  refine z_if_ge (tgt := 9) C dX5_grow_2 (by decide) (fun h_2 => ?_) (fun h_2 => ?_)
  · exact absurd h0 (Int32.not_lt.mpr h_2)
  · skip
    refine z_iconst (v := 1) C (by decide +kernel) dX5_grow_5 ?_
    refine z_goto (tgt := 10) C dX5_grow_6 (by decide) ?_
    refine pf_X5_51 (x := 1) C dX5_grow_10 ?_
    refine z_aload_n C rfl dX5_grow_13 ?_
    refine gf_X5_51 (v := 1) C rfl dX5_grow_14 ?_
    refine z_if_le (tgt := 22) C dX5_grow_17 (by decide) (fun h_17 => ?_) (fun h_17 => ?_)
    · exact absurd h_17 (by decide +kernel)
    · skip
      refine z_iconst (v := 0) C (by decide +kernel) dX5_grow_20 ?_
      exact z_endI (hret _ _ dX5_grow_21) rfl rfl
set_option maxHeartbeats 4000000 in
set_option maxRecDepth 100000 in
theorem c_X5_grow_n (l : Launch) (D : DD) (n0 : Nat) (κ μ : KH) (o : Int64) (c : Nat) (hc : c < 2 ^ 31) (y : KH) (hy : y = up μ 0 0 0) (hE : y 0 9 = nI (nE y)) (hE9 : nE y < 97) (hb : 96 < nE y + c) : HM l D n0 yX5_grow cX5_grow 2 (some .int) 0 0 [.ref (n0 + 113), .int (nI c)] (κ, μ, o) (some (.int ((-1)))) (κ, y, o) := by
  refine HM.of (by decide) (by simp [Value.category]) (by simp) (Or.inr (Or.inl ⟨_, .int, rfl, rfl, rfl⟩)) ?_
  intro pp ee ss mm aa bb me cd Q C K hret
  show ZZ pp l ee (rmk 0 0) ss mm aa bb me cd D n0 127 2 0 0 Q _ 0 [some (.ref (n0 + 113)), some (.int (nI c))] []
  refine z_aload_n C rfl dX5_grow_0 ?_
  refine z_iload_n C rfl dX5_grow_1 ?_
  refine z_if_ge (tgt := 9) C dX5_grow_2 (by decide) (fun h_2 => ?_) (fun h_2 => ?_)
  · skip
    refine z_iconst (v := 0) C (by decide +kernel) dX5_grow_9 ?_
    refine pf_X5_51 (x := 0) C dX5_grow_10 ?_
    rw [← hy]
    refine z_aload_n C rfl dX5_grow_13 ?_
    refine gf_X5_51 (v := 0) C (by rw [hy]; exact up_self) dX5_grow_14 ?_
    refine z_if_le (tgt := 22) C dX5_grow_17 (by decide) (fun h_17 => ?_) (fun h_17 => ?_)
    · skip
      refine z_iload_n C rfl dX5_grow_22 ?_
      refine z_bipush (v := 96) C (by decide +kernel) dX5_grow_23 ?_
      refine z_aload_n C rfl dX5_grow_25 ?_
      refine gf_X5_32 (v := nI (nE y)) C hE dX5_grow_26 ?_
      refine z_isub (v := nI (96 - nE y)) C (cv_sub (a := 96) (by omega)) dX5_grow_29 ?_
      refine z_icmp_le (tgt := 35) C dX5_grow_30 (by decide) (fun h_30 => ?_) (fun h_30 => ?_)
      · have g_30 := cv_le (a := c) (b := 96 - nE y) (by omega) (by omega) h_30
        exact absurd g_30 (by omega)
      · have g_30 := cv_nle (a := c) (b := 96 - nE y) (by omega) (by omega) h_30
        refine z_iconst (v := (-1)) C (by decide +kernel) dX5_grow_33 ?_
        exact z_endI (hret _ _ dX5_grow_34) rfl rfl
    · exact absurd h_17 (by decide +kernel)
  · exact absurd (nI_pos' (by omega)) h_2
set_option maxHeartbeats 4000000 in
set_option maxRecDepth 100000 in
theorem c_X5_grow (l : Launch) (D : DD) (n0 : Nat) (κ μ : KH) (o : Int64) (c : Nat) (y : KH) (hy : y = up μ 0 0 0) (hE : y 0 9 = nI (nE y)) (hE9 : nE y < 97) (hb : nE y + c ≤ 96) (hD1 : mD (up y 0 9 (nI (nE y + c))) (nQ (up y 0 9 (nI (nE y + c))))) : HM l D n0 yX5_grow cX5_grow 2 (some .int) 7 165 [.ref (n0 + 113), .int (nI c)] (κ, μ, o) (some (.int (mDrain (up y 0 9 (nI (nE y + c))) 0 9))) (κ, mDrain (up y 0 9 (nI (nE y + c))), o) := by
  refine HM.of (by decide) (by simp [Value.category]) (by simp) (Or.inr (Or.inl ⟨_, .int, rfl, rfl, rfl⟩)) ?_
  intro pp ee ss mm aa bb me cd Q C K hret
  show ZZ pp l ee (rmk 7 165) ss mm aa bb me cd D n0 127 2 0 0 Q _ 0 [some (.ref (n0 + 113)), some (.int (nI c))] []
  refine z_aload_n C rfl dX5_grow_0 ?_
  refine z_iload_n C rfl dX5_grow_1 ?_
  refine z_if_ge (tgt := 9) C dX5_grow_2 (by decide) (fun h_2 => ?_) (fun h_2 => ?_)
  · skip
    refine z_iconst (v := 0) C (by decide +kernel) dX5_grow_9 ?_
    refine pf_X5_51 (x := 0) C dX5_grow_10 ?_
    rw [← hy]
    refine z_aload_n C rfl dX5_grow_13 ?_
    refine gf_X5_51 (v := 0) C (by rw [hy]; exact up_self) dX5_grow_14 ?_
    refine z_if_le (tgt := 22) C dX5_grow_17 (by decide) (fun h_17 => ?_) (fun h_17 => ?_)
    · skip
      refine z_iload_n C rfl dX5_grow_22 ?_
      refine z_bipush (v := 96) C (by decide +kernel) dX5_grow_23 ?_
      refine z_aload_n C rfl dX5_grow_25 ?_
      refine gf_X5_32 (v := nI (nE y)) C hE dX5_grow_26 ?_
      refine z_isub (v := nI (96 - nE y)) C (cv_sub (a := 96) (by omega)) dX5_grow_29 ?_
      refine z_icmp_le (tgt := 35) C dX5_grow_30 (by decide) (fun h_30 => ?_) (fun h_30 => ?_)
      · have g_30 := cv_le (a := c) (b := 96 - nE y) (by omega) (by omega) h_30
        refine z_aload_n C rfl dX5_grow_35 ?_
        refine z_dup C rfl dX5_grow_36 ?_
        refine gf_X5_32 (v := nI (nE y)) C hE dX5_grow_37 ?_
        refine z_iload_n C rfl dX5_grow_40 ?_
        refine z_iadd (v := nI (nE y + c)) C (cv_add (nE y) c) dX5_grow_41 ?_
        refine pf_X5_32 (x := nI (nE y + c)) C dX5_grow_42 ?_
        refine z_aload_n C rfl dX5_grow_45 ?_
        refine z_callV (As := []) (r := none) (σ1 := (κ, mDrain (up y 0 9 (nI (nE y + c))), o)) (st := []) (st1 := []) C K ok_X5_150 (c_X5_drain l D n0 κ (up y 0 9 (nI (nE y + c))) o hD1) enc_M (by decide) rfl rfl ⟨by decide, by decide⟩ ⟨Nat.zero_le _, Nat.zero_le _⟩ (by simp [Value.category]) dX5_grow_46 rfl rfl ?_
        refine z_aload_n C rfl dX5_grow_49 ?_
        refine gf_X5_32 (v := mDrain (up y 0 9 (nI (nE y + c))) 0 9) C rfl dX5_grow_50 ?_
        exact z_endI (hret _ _ dX5_grow_53) rfl rfl
      · have g_30 := cv_nle (a := c) (b := 96 - nE y) (by omega) (by omega) h_30
        exact absurd g_30 (by omega)
    · exact absurd h_17 (by decide +kernel)
  · exact absurd (nI_pos' (by omega)) h_2
set_option maxHeartbeats 4000000 in
set_option maxRecDepth 100000 in
theorem c_X5_shrink_1 (l : Launch) (D : DD) (n0 : Nat) (κ μ : KH) (o : Int64) (n : Int32) (h0 : n < 0) : HM l D n0 yX5_shrink cX5_shrink 3 (some .int) 0 0 [.ref (n0 + 113), .int n] (κ, μ, o) (some (.int 0)) (κ, up μ 0 0 1, o) := by
  refine HM.of (by decide) (by simp [Value.category]) (by simp) (Or.inr (Or.inl ⟨_, .int, rfl, rfl, rfl⟩)) ?_
  intro pp ee ss mm aa bb me cd Q C K hret
  show ZZ pp l ee (rmk 0 0) ss mm aa bb me cd D n0 127 3 0 0 Q _ 0 [some (.ref (n0 + 113)), some (.int n), none] []
  refine z_aload_n C rfl dX5_shrink_0 ?_
  refine z_iload_n C rfl dX5_shrink_1 ?_
  refine z_if_ge (tgt := 9) C dX5_shrink_2 (by decide) (fun h_2 => ?_) (fun h_2 => ?_)
  · exact absurd h0 (Int32.not_lt.mpr h_2)
  · skip
    refine z_iconst (v := 1) C (by decide +kernel) dX5_shrink_5 ?_
    refine z_goto (tgt := 10) C dX5_shrink_6 (by decide) ?_
    refine pf_X5_51 (x := 1) C dX5_shrink_10 ?_
    refine z_aload_n C rfl dX5_shrink_13 ?_
    refine gf_X5_51 (v := 1) C rfl dX5_shrink_14 ?_
    refine z_if_le (tgt := 22) C dX5_shrink_17 (by decide) (fun h_17 => ?_) (fun h_17 => ?_)
    · exact absurd h_17 (by decide +kernel)
    · skip
      refine z_iconst (v := 0) C (by decide +kernel) dX5_shrink_20 ?_
      exact z_endI (hret _ _ dX5_shrink_21) rfl rfl
set_option maxHeartbeats 4000000 in
set_option maxRecDepth 100000 in
theorem c_X5_shrink_n (l : Launch) (D : DD) (n0 : Nat) (κ μ : KH) (o : Int64) (c : Nat) (hc : c < 2 ^ 31) (y : KH) (hy : y = up μ 0 0 0) (hE : y 0 9 = nI (nE y)) (hE9 : nE y < 97) (hb : nE y ≤ c) : HM l D n0 yX5_shrink cX5_shrink 3 (some .int) 0 0 [.ref (n0 + 113), .int (nI c)] (κ, μ, o) (some (.int ((-1)))) (κ, y, o) := by
  refine HM.of (by decide) (by simp [Value.category]) (by simp) (Or.inr (Or.inl ⟨_, .int, rfl, rfl, rfl⟩)) ?_
  intro pp ee ss mm aa bb me cd Q C K hret
  show ZZ pp l ee (rmk 0 0) ss mm aa bb me cd D n0 127 3 0 0 Q _ 0 [some (.ref (n0 + 113)), some (.int (nI c)), none] []
  refine z_aload_n C rfl dX5_shrink_0 ?_
  refine z_iload_n C rfl dX5_shrink_1 ?_
  refine z_if_ge (tgt := 9) C dX5_shrink_2 (by decide) (fun h_2 => ?_) (fun h_2 => ?_)
  · skip
    refine z_iconst (v := 0) C (by decide +kernel) dX5_shrink_9 ?_
    refine pf_X5_51 (x := 0) C dX5_shrink_10 ?_
    rw [← hy]
    refine z_aload_n C rfl dX5_shrink_13 ?_
    refine gf_X5_51 (v := 0) C (by rw [hy]; exact up_self) dX5_shrink_14 ?_
    refine z_if_le (tgt := 22) C dX5_shrink_17 (by decide) (fun h_17 => ?_) (fun h_17 => ?_)
    · skip
      refine z_iload_n C rfl dX5_shrink_22 ?_
      refine z_aload_n C rfl dX5_shrink_23 ?_
      refine gf_X5_32 (v := nI (nE y)) C hE dX5_shrink_24 ?_
      refine z_icmp_lt (tgt := 32) C dX5_shrink_27 (by decide) (fun h_27 => ?_) (fun h_27 => ?_)
      · have g_27 := cv_lt (a := c) (b := nE y) (by omega) (by omega) h_27
        exact absurd g_27 (by omega)
      · have g_27 := cv_nlt (a := c) (b := nE y) (by omega) (by omega) h_27
        refine z_iconst (v := (-1)) C (by decide +kernel) dX5_shrink_30 ?_
        exact z_endI (hret _ _ dX5_shrink_31) rfl rfl
    · exact absurd h_17 (by decide +kernel)
  · exact absurd (nI_pos' (by omega)) h_2
set_option maxHeartbeats 4000000 in
set_option maxRecDepth 100000 in
theorem c_X5_shrink_m (l : Launch) (D : DD) (n0 : Nat) (κ μ : KH) (o : Int64) (c : Nat) (y : KH) (hy : y = up μ 0 0 0) (hE : y 0 9 = nI (nE y)) (hE9 : nE y < 97) (hb : c < nE y) (i0 : Nat) (hi0 : i0 < c) (hfr : ∀ i, i < i0 → mFree y (nI (nE y - c + i)) = true) (hnf : mFree y (nI (nE y - c + i0)) = false) : HM l D n0 yX5_shrink cX5_shrink 3 (some .int) 3 68 [.ref (n0 + 113), .int (nI c)] (κ, μ, o) (some (.int ((-1)))) (κ, y, o) := by
  refine HM.of (by decide) (by simp [Value.category]) (by simp) (Or.inr (Or.inl ⟨_, .int, rfl, rfl, rfl⟩)) ?_
  intro pp ee ss mm aa bb me cd Q C K hret
  show ZZ pp l ee (rmk 3 68) ss mm aa bb me cd D n0 127 3 0 0 Q _ 0 [some (.ref (n0 + 113)), some (.int (nI c)), none] []
  refine z_aload_n C rfl dX5_shrink_0 ?_
  refine z_iload_n C rfl dX5_shrink_1 ?_
  refine z_if_ge (tgt := 9) C dX5_shrink_2 (by decide) (fun h_2 => ?_) (fun h_2 => ?_)
  · skip
    refine z_iconst (v := 0) C (by decide +kernel) dX5_shrink_9 ?_
    refine pf_X5_51 (x := 0) C dX5_shrink_10 ?_
    rw [← hy]
    refine z_aload_n C rfl dX5_shrink_13 ?_
    refine gf_X5_51 (v := 0) C (by rw [hy]; exact up_self) dX5_shrink_14 ?_
    refine z_if_le (tgt := 22) C dX5_shrink_17 (by decide) (fun h_17 => ?_) (fun h_17 => ?_)
    · skip
      refine z_iload_n C rfl dX5_shrink_22 ?_
      refine z_aload_n C rfl dX5_shrink_23 ?_
      refine gf_X5_32 (v := nI (nE y)) C hE dX5_shrink_24 ?_
      refine z_icmp_lt (tgt := 32) C dX5_shrink_27 (by decide) (fun h_27 => ?_) (fun h_27 => ?_)
      · have g_27 := cv_lt (a := c) (b := nE y) (by omega) (by omega) h_27
        refine z_aload_n C rfl dX5_shrink_32 ?_
        refine gf_X5_32 (v := nI (nE y)) C hE dX5_shrink_33 ?_
        refine z_iload_n C rfl dX5_shrink_36 ?_
        refine z_isub (v := nI (nE y - c)) C (cv_sub (by omega)) dX5_shrink_37 ?_
        refine z_istore_n (ls' := [some (.ref (n0 + 113)), some (.int (nI c)), some (.int (nI (nE y - c)))]) C (by decide) rfl dX5_shrink_38 ?_
        refine z_cast (σ1 := (κ, y, o)) (ls' := [some (.ref (n0 + 113)), some (.int (nI c)), some (.int (nI (nE y - c + 0)))]) (st' := []) (z_for (P := fun i => ZZ pp l ee (rmk 3 68) ss mm aa bb me cd D n0 127 3 0 0 Q (κ, y, o) 39 [some (.ref (n0 + 113)), some (.int (nI c)), some (.int (nI (nE y - c + i)))] []) (i0) ?_ ?_ 0 (Nat.zero_le _)) rfl ⟨rfl, rfl, (so_int rfl), trivial⟩ rfl
        · skip
          refine z_iload_n C rfl dX5_shrink_39 ?_
          refine z_aload_n C rfl dX5_shrink_40 ?_
          refine gf_X5_32 (v := nI (nE y)) C hE dX5_shrink_41 ?_
          refine z_icmp_ge (tgt := 63) C dX5_shrink_44 (by decide) (fun h_44 => ?_) (fun h_44 => ?_)
          · have g_44 := cv_le (a := nE y) (b := nE y - c + i0) (by omega) (by omega) h_44
            exact absurd g_44 (by omega)
          · have g_44 := cv_nle (a := nE y) (b := nE y - c + i0) (by omega) (by omega) h_44
            refine z_aload_n C rfl dX5_shrink_47 ?_
            refine z_iload_n C rfl dX5_shrink_48 ?_
            refine z_callV (As := [.int (nI (nE y - c + i0))]) (r := (some (.int (b2i (mFree y (nI (nE y - c + i0))))))) (σ1 := (κ, y, o)) (st := []) (st1 := [.int (b2i (mFree y (nI (nE y - c + i0))))]) C K ok_X5_66 (c_X5_isFree l D n0 κ y o (nI (nE y - c + i0))) enc_M (by decide) rfl rfl ⟨by decide, by decide⟩ ⟨Nat.zero_le _, Nat.zero_le _⟩ (by simp [Value.category]) dX5_shrink_49 rfl rfl ?_
            refine z_if_ne (tgt := 57) C dX5_shrink_52 (by decide) (fun h_52 => ?_) (fun h_52 => ?_)
            · have g_52 := cv_b1 h_52
              exact absurd g_52 (by rw [hnf]; decide)
            · have g_52 := cv_b0 h_52
              refine z_iconst (v := (-1)) C (by decide +kernel) dX5_shrink_55 ?_
              exact z_endI (hret _ _ dX5_shrink_56) rfl rfl
        · intro i hi_39 ih_39
          refine z_iload_n C rfl dX5_shrink_39 ?_
          refine z_aload_n C rfl dX5_shrink_40 ?_
          refine gf_X5_32 (v := nI (nE y)) C hE dX5_shrink_41 ?_
          refine z_icmp_ge (tgt := 63) C dX5_shrink_44 (by decide) (fun h_44 => ?_) (fun h_44 => ?_)
          · have g_44 := cv_le (a := nE y) (b := nE y - c + i) (by omega) (by omega) h_44
            exact absurd g_44 (by omega)
          · have g_44 := cv_nle (a := nE y) (b := nE y - c + i) (by omega) (by omega) h_44
            refine z_aload_n C rfl dX5_shrink_47 ?_
            refine z_iload_n C rfl dX5_shrink_48 ?_
            refine z_callV (As := [.int (nI (nE y - c + i))]) (r := (some (.int (b2i (mFree y (nI (nE y - c + i))))))) (σ1 := (κ, y, o)) (st := []) (st1 := [.int (b2i (mFree y (nI (nE y - c + i))))]) C K ok_X5_66 (c_X5_isFree l D n0 κ y o (nI (nE y - c + i))) enc_M (by decide) rfl rfl ⟨by decide, by decide⟩ ⟨Nat.zero_le _, Nat.zero_le _⟩ (by simp [Value.category]) dX5_shrink_49 rfl rfl ?_
            refine z_if_ne (tgt := 57) C dX5_shrink_52 (by decide) (fun h_52 => ?_) (fun h_52 => ?_)
            · have g_52 := cv_b1 h_52
              refine z_iinc (v := nI (nE y - c + i + 1)) (ls' := [some (.ref (n0 + 113)), some (.int (nI c)), some (.int (nI (nE y - c + i + 1)))]) C rfl (cv_inc (nE y - c + i) 1) (by decide) rfl dX5_shrink_57 ?_
              refine z_goto (tgt := 39) C dX5_shrink_60 (by decide) ?_
              exact z_cast (σ1 := (κ, y, o)) (ls' := [some (.ref (n0 + 113)), some (.int (nI c)), some (.int (nI (nE y - c + (i + 1))))]) (st' := []) (ih_39) rfl ⟨rfl, rfl, (so_int rfl), trivial⟩ rfl
            · have g_52 := cv_b0 h_52
              exact absurd (hfr i hi_39) (by rw [g_52]; decide)
      · have g_27 := cv_nlt (a := c) (b := nE y) (by omega) (by omega) h_27
        exact absurd g_27 (by omega)
    · exact absurd h_17 (by decide +kernel)
  · exact absurd (nI_pos' (by omega)) h_2
set_option maxHeartbeats 4000000 in
set_option maxRecDepth 100000 in
theorem c_X5_shrink (l : Launch) (D : DD) (n0 : Nat) (κ μ : KH) (o : Int64) (c : Nat) (y : KH) (hy : y = up μ 0 0 0) (hE : y 0 9 = nI (nE y)) (hE9 : nE y < 97) (hb : c < nE y) (hfr : ∀ i, i < c → mFree y (nI (nE y - c + i)) = true) (hcu : y 0 12 = nI (tn (y 0 12))) (hcb : tn (y 0 12) < 97) : HM l D n0 yX5_shrink cX5_shrink 3 (some .int) 3 68 [.ref (n0 + 113), .int (nI c)] (κ, μ, o) (some (.int (nI (nE y - c)))) (κ, up (up y 0 9 (nI (nE y - c))) 0 12 (if tn (y 0 12) < nE y - c then y 0 12 else 0), o) := by
  refine HM.of (by decide) (by simp [Value.category]) (by simp) (Or.inr (Or.inl ⟨_, .int, rfl, rfl, rfl⟩)) ?_
  intro pp ee ss mm aa bb me cd Q C K hret
  show ZZ pp l ee (rmk 3 68) ss mm aa bb me cd D n0 127 3 0 0 Q _ 0 [some (.ref (n0 + 113)), some (.int (nI c)), none] []
  refine z_aload_n C rfl dX5_shrink_0 ?_
  refine z_iload_n C rfl dX5_shrink_1 ?_
  refine z_if_ge (tgt := 9) C dX5_shrink_2 (by decide) (fun h_2 => ?_) (fun h_2 => ?_)
  · skip
    refine z_iconst (v := 0) C (by decide +kernel) dX5_shrink_9 ?_
    refine pf_X5_51 (x := 0) C dX5_shrink_10 ?_
    rw [← hy]
    refine z_aload_n C rfl dX5_shrink_13 ?_
    refine gf_X5_51 (v := 0) C (by rw [hy]; exact up_self) dX5_shrink_14 ?_
    refine z_if_le (tgt := 22) C dX5_shrink_17 (by decide) (fun h_17 => ?_) (fun h_17 => ?_)
    · skip
      refine z_iload_n C rfl dX5_shrink_22 ?_
      refine z_aload_n C rfl dX5_shrink_23 ?_
      refine gf_X5_32 (v := nI (nE y)) C hE dX5_shrink_24 ?_
      refine z_icmp_lt (tgt := 32) C dX5_shrink_27 (by decide) (fun h_27 => ?_) (fun h_27 => ?_)
      · have g_27 := cv_lt (a := c) (b := nE y) (by omega) (by omega) h_27
        refine z_aload_n C rfl dX5_shrink_32 ?_
        refine gf_X5_32 (v := nI (nE y)) C hE dX5_shrink_33 ?_
        refine z_iload_n C rfl dX5_shrink_36 ?_
        refine z_isub (v := nI (nE y - c)) C (cv_sub (by omega)) dX5_shrink_37 ?_
        refine z_istore_n (ls' := [some (.ref (n0 + 113)), some (.int (nI c)), some (.int (nI (nE y - c)))]) C (by decide) rfl dX5_shrink_38 ?_
        refine z_cast (σ1 := (κ, y, o)) (ls' := [some (.ref (n0 + 113)), some (.int (nI c)), some (.int (nI (nE y - c + 0)))]) (st' := []) (z_for (P := fun i => ZZ pp l ee (rmk 3 68) ss mm aa bb me cd D n0 127 3 0 0 Q (κ, y, o) 39 [some (.ref (n0 + 113)), some (.int (nI c)), some (.int (nI (nE y - c + i)))] []) (c) ?_ ?_ 0 (Nat.zero_le _)) rfl ⟨rfl, rfl, (so_int rfl), trivial⟩ rfl
        · skip
          refine z_iload_n C rfl dX5_shrink_39 ?_
          refine z_aload_n C rfl dX5_shrink_40 ?_
          refine gf_X5_32 (v := nI (nE y)) C hE dX5_shrink_41 ?_
          refine z_icmp_ge (tgt := 63) C dX5_shrink_44 (by decide) (fun h_44 => ?_) (fun h_44 => ?_)
          · have g_44 := cv_le (a := nE y) (b := nE y - c + c) (by omega) (by omega) h_44
            refine z_aload_n C rfl dX5_shrink_63 ?_
            refine z_dup C rfl dX5_shrink_64 ?_
            refine gf_X5_32 (v := nI (nE y)) C hE dX5_shrink_65 ?_
            refine z_iload_n C rfl dX5_shrink_68 ?_
            refine z_isub (v := nI (nE y - c)) C (cv_sub (by omega)) dX5_shrink_69 ?_
            refine pf_X5_32 (x := nI (nE y - c)) C dX5_shrink_70 ?_
            refine z_aload_n C rfl dX5_shrink_73 ?_
            refine z_aload_n C rfl dX5_shrink_74 ?_
            refine gf_X5_80 (v := nI (tn (y 0 12))) C hcu dX5_shrink_75 ?_
            refine z_aload_n C rfl dX5_shrink_78 ?_
            refine gf_X5_32 (v := nI (nE y - c)) C rfl dX5_shrink_79 ?_
            refine z_icmp_lt (tgt := 89) C dX5_shrink_82 (by decide) (fun h_82 => ?_) (fun h_82 => ?_)
            · have g_82 := cv_lt (a := tn (y 0 12)) (b := nE y - c) (by omega) (by omega) h_82
              refine z_aload_n C rfl dX5_shrink_89 ?_
              refine gf_X5_80 (v := nI (tn (y 0 12))) C hcu dX5_shrink_90 ?_
              refine pf_X5_80 (x := nI (tn (y 0 12))) C dX5_shrink_93 ?_
              refine z_aload_n C rfl dX5_shrink_96 ?_
              refine gf_X5_32 (v := nI (nE y - c)) C rfl dX5_shrink_97 ?_
              exact z_endI (hret _ _ dX5_shrink_100) rfl (by rw [if_pos g_82, ← hcu])
            · have g_82 := cv_nlt (a := tn (y 0 12)) (b := nE y - c) (by omega) (by omega) h_82
              refine z_iconst (v := 0) C (by decide +kernel) dX5_shrink_85 ?_
              refine z_goto (tgt := 93) C dX5_shrink_86 (by decide) ?_
              refine pf_X5_80 (x := 0) C dX5_shrink_93 ?_
              refine z_aload_n C rfl dX5_shrink_96 ?_
              refine gf_X5_32 (v := nI (nE y - c)) C rfl dX5_shrink_97 ?_
              exact z_endI (hret _ _ dX5_shrink_100) rfl (by rw [if_neg (by omega)])
          · have g_44 := cv_nle (a := nE y) (b := nE y - c + c) (by omega) (by omega) h_44
            exact absurd g_44 (by omega)
        · intro i hi_39 ih_39
          refine z_iload_n C rfl dX5_shrink_39 ?_
          refine z_aload_n C rfl dX5_shrink_40 ?_
          refine gf_X5_32 (v := nI (nE y)) C hE dX5_shrink_41 ?_
          refine z_icmp_ge (tgt := 63) C dX5_shrink_44 (by decide) (fun h_44 => ?_) (fun h_44 => ?_)
          · have g_44 := cv_le (a := nE y) (b := nE y - c + i) (by omega) (by omega) h_44
            exact absurd hi_39 (by omega)
          · have g_44 := cv_nle (a := nE y) (b := nE y - c + i) (by omega) (by omega) h_44
            refine z_aload_n C rfl dX5_shrink_47 ?_
            refine z_iload_n C rfl dX5_shrink_48 ?_
            refine z_callV (As := [.int (nI (nE y - c + i))]) (r := (some (.int (b2i (mFree y (nI (nE y - c + i))))))) (σ1 := (κ, y, o)) (st := []) (st1 := [.int (b2i (mFree y (nI (nE y - c + i))))]) C K ok_X5_66 (c_X5_isFree l D n0 κ y o (nI (nE y - c + i))) enc_M (by decide) rfl rfl ⟨by decide, by decide⟩ ⟨Nat.zero_le _, Nat.zero_le _⟩ (by simp [Value.category]) dX5_shrink_49 rfl rfl ?_
            refine z_if_ne (tgt := 57) C dX5_shrink_52 (by decide) (fun h_52 => ?_) (fun h_52 => ?_)
            · have g_52 := cv_b1 h_52
              refine z_iinc (v := nI (nE y - c + i + 1)) (ls' := [some (.ref (n0 + 113)), some (.int (nI c)), some (.int (nI (nE y - c + i + 1)))]) C rfl (cv_inc (nE y - c + i) 1) (by decide) rfl dX5_shrink_57 ?_
              refine z_goto (tgt := 39) C dX5_shrink_60 (by decide) ?_
              exact z_cast (σ1 := (κ, y, o)) (ls' := [some (.ref (n0 + 113)), some (.int (nI c)), some (.int (nI (nE y - c + (i + 1))))]) (st' := []) (ih_39) rfl ⟨rfl, rfl, (so_int rfl), trivial⟩ rfl
            · have g_52 := cv_b0 h_52
              exact absurd (hfr i hi_39) (by rw [g_52]; decide)
      · have g_27 := cv_nlt (a := c) (b := nE y) (by omega) (by omega) h_27
        exact absurd g_27 (by omega)
    · exact absurd h_17 (by decide +kernel)
  · exact absurd (nI_pos' (by omega)) h_2
set_option maxHeartbeats 4000000 in
set_option maxRecDepth 100000 in
theorem c_X5_back_1 (l : Launch) (D : DD) (n0 : Nat) (κ μ : KH) (o : Int64) (w x : Int32) (hb : w < 0 ∨ 159 < w) : HM l D n0 yX5_back cX5_back 4 (some .int) 0 0 [.ref (n0 + 113), .int w, .int x] (κ, μ, o) (some (.int 0)) (κ, up μ 0 0 1, o) := by
  refine HM.of (by decide) (by simp [Value.category]) (by simp) (Or.inr (Or.inl ⟨_, .int, rfl, rfl, rfl⟩)) ?_
  intro pp ee ss mm aa bb me cd Q C K hret
  show ZZ pp l ee (rmk 0 0) ss mm aa bb me cd D n0 127 4 0 0 Q _ 0 [some (.ref (n0 + 113)), some (.int w), some (.int x), none] []
  refine z_aload_n C rfl dX5_back_0 ?_
  refine z_iload_n C rfl dX5_back_1 ?_
  refine z_if_lt (tgt := 12) C dX5_back_2 (by decide) (fun h_2 => ?_) (fun h_2 => ?_)
  · skip
    refine z_iconst (v := 1) C (by decide +kernel) dX5_back_12 ?_
    refine z_goto (tgt := 17) C dX5_back_13 (by decide) ?_
    refine pf_X5_51 (x := 1) C dX5_back_17 ?_
    refine z_iconst (v := 0) C (by decide +kernel) dX5_back_20 ?_
    refine z_istore_n (ls' := [some (.ref (n0 + 113)), some (.int w), some (.int x), some (.int 0)]) C (by decide) rfl dX5_back_21 ?_
    refine z_iload_n C rfl dX5_back_22 ?_
    refine z_bipush (v := 48) C (by decide +kernel) dX5_back_23 ?_
    refine z_icmp_ge (tgt := 68) C dX5_back_25 (by decide) (fun h_25 => ?_) (fun h_25 => ?_)
    · exact absurd h_25 (by decide +kernel)
    · skip
      refine z_aload_n C rfl dX5_back_28 ?_
      refine gf_X5_51 (v := 1) C rfl dX5_back_29 ?_
      refine z_if_ne (tgt := 68) C dX5_back_32 (by decide) (fun h_32 => ?_) (fun h_32 => ?_)
      · skip
        refine z_aload_n C rfl dX5_back_68 ?_
        refine gf_X5_51 (v := 1) C rfl dX5_back_69 ?_
        refine z_if_le (tgt := 77) C dX5_back_72 (by decide) (fun h_72 => ?_) (fun h_72 => ?_)
        · exact absurd h_72 (by decide +kernel)
        · skip
          refine z_iconst (v := 0) C (by decide +kernel) dX5_back_75 ?_
          exact z_endI (hret _ _ dX5_back_76) rfl rfl
      · exact absurd h_32 (by decide +kernel)
  · skip
    refine z_iload_n C rfl dX5_back_5 ?_
    refine z_sipush (v := 159) C (by decide +kernel) dX5_back_6 ?_
    refine z_icmp_le (tgt := 16) C dX5_back_9 (by decide) (fun h_9 => ?_) (fun h_9 => ?_)
    · exact absurd hb (fun q => q.elim h_2 (Int32.not_lt.mpr h_9))
    · skip
      refine z_iconst (v := 1) C (by decide +kernel) dX5_back_12 ?_
      refine z_goto (tgt := 17) C dX5_back_13 (by decide) ?_
      refine pf_X5_51 (x := 1) C dX5_back_17 ?_
      refine z_iconst (v := 0) C (by decide +kernel) dX5_back_20 ?_
      refine z_istore_n (ls' := [some (.ref (n0 + 113)), some (.int w), some (.int x), some (.int 0)]) C (by decide) rfl dX5_back_21 ?_
      refine z_iload_n C rfl dX5_back_22 ?_
      refine z_bipush (v := 48) C (by decide +kernel) dX5_back_23 ?_
      refine z_icmp_ge (tgt := 68) C dX5_back_25 (by decide) (fun h_25 => ?_) (fun h_25 => ?_)
      · exact absurd h_25 (by decide +kernel)
      · skip
        refine z_aload_n C rfl dX5_back_28 ?_
        refine gf_X5_51 (v := 1) C rfl dX5_back_29 ?_
        refine z_if_ne (tgt := 68) C dX5_back_32 (by decide) (fun h_32 => ?_) (fun h_32 => ?_)
        · skip
          refine z_aload_n C rfl dX5_back_68 ?_
          refine gf_X5_51 (v := 1) C rfl dX5_back_69 ?_
          refine z_if_le (tgt := 77) C dX5_back_72 (by decide) (fun h_72 => ?_) (fun h_72 => ?_)
          · exact absurd h_72 (by decide +kernel)
          · skip
            refine z_iconst (v := 0) C (by decide +kernel) dX5_back_75 ?_
            exact z_endI (hret _ _ dX5_back_76) rfl rfl
        · exact absurd h_32 (by decide +kernel)
set_option maxHeartbeats 4000000 in
set_option maxRecDepth 100000 in
theorem c_X5_back_2 (l : Launch) (D : DD) (n0 : Nat) (κ μ : KH) (o : Int64) (k : Nat) (x : Int32) (hk : k < 160) (y : KH) (hy : y = up μ 0 0 0) (i0 : Nat) (hi0 : i0 < 48) (hno : ∀ i, i < i0 → y 1 i = 0 ∨ y 3 i = 0) (h1 : y 1 i0 ≠ 0) (h3 : y 3 i0 ≠ 0) : HM l D n0 yX5_back cX5_back 4 (some .int) 0 0 [.ref (n0 + 113), .int (nI k), .int x] (κ, μ, o) (some (.int 0)) (κ, up y 0 0 2, o) := by
  refine HM.of (by decide) (by simp [Value.category]) (by simp) (Or.inr (Or.inl ⟨_, .int, rfl, rfl, rfl⟩)) ?_
  intro pp ee ss mm aa bb me cd Q C K hret
  show ZZ pp l ee (rmk 0 0) ss mm aa bb me cd D n0 127 4 0 0 Q _ 0 [some (.ref (n0 + 113)), some (.int (nI k)), some (.int x), none] []
  refine z_aload_n C rfl dX5_back_0 ?_
  refine z_iload_n C rfl dX5_back_1 ?_
  refine z_if_lt (tgt := 12) C dX5_back_2 (by decide) (fun h_2 => ?_) (fun h_2 => ?_)
  · exact absurd h_2 (nI_pos (by omega))
  · skip
    refine z_iload_n C rfl dX5_back_5 ?_
    refine z_sipush (v := 159) C (by decide +kernel) dX5_back_6 ?_
    refine z_icmp_le (tgt := 16) C dX5_back_9 (by decide) (fun h_9 => ?_) (fun h_9 => ?_)
    · have g_9 := cv_le (a := k) (b := 159) (by omega) (by omega) h_9
      refine z_iconst (v := 0) C (by decide +kernel) dX5_back_16 ?_
      refine pf_X5_51 (x := 0) C dX5_back_17 ?_
      refine z_iconst (v := 0) C (by decide +kernel) dX5_back_20 ?_
      refine z_istore_n (ls' := [some (.ref (n0 + 113)), some (.int (nI k)), some (.int x), some (.int 0)]) C (by decide) rfl dX5_back_21 ?_
      refine z_cast (σ1 := (κ, y, o)) (ls' := [some (.ref (n0 + 113)), some (.int (nI k)), some (.int x), some (.int (nI 0))]) (st' := []) (z_for (P := fun i => ZZ pp l ee (rmk 0 0) ss mm aa bb me cd D n0 127 4 0 0 Q (κ, y, o) 22 [some (.ref (n0 + 113)), some (.int (nI k)), some (.int x), some (.int (nI i))] []) (i0) ?_ ?_ 0 (Nat.zero_le _)) (st_m hy.symm) ⟨rfl, rfl, rfl, rfl, trivial⟩ rfl
      · skip
        refine z_iload_n C rfl dX5_back_22 ?_
        refine z_bipush (v := 48) C (by decide +kernel) dX5_back_23 ?_
        refine z_icmp_ge (tgt := 68) C dX5_back_25 (by decide) (fun h_25 => ?_) (fun h_25 => ?_)
        · have g_25 := cv_le (a := 48) (b := i0) (by omega) (by omega) h_25
          exact absurd g_25 (by omega)
        · have g_25 := cv_nle (a := 48) (b := i0) (by omega) (by omega) h_25
          refine z_aload_n C rfl dX5_back_28 ?_
          refine gf_X5_51 (v := 0) C (by rw [hy]; exact up_self) dX5_back_29 ?_
          refine z_if_ne (tgt := 68) C dX5_back_32 (by decide) (fun h_32 => ?_) (fun h_32 => ?_)
          · exact absurd h_32 (by decide +kernel)
          · skip
            refine z_aload_n C rfl dX5_back_35 ?_
            refine z_aload_n C rfl dX5_back_36 ?_
            refine gf_X5_7 C dX5_back_37 ?_
            refine z_iload_n C rfl dX5_back_40 ?_
            refine al_114 (v := y 1 i0) C (i0) rfl (by omega) rfl dX5_back_41 ?_
            refine z_if_eq (tgt := 58) C dX5_back_42 (by decide) (fun h_42 => ?_) (fun h_42 => ?_)
            · exact absurd h_42 h1
            · skip
              refine z_aload_n C rfl dX5_back_45 ?_
              refine gf_X5_17 C dX5_back_46 ?_
              refine z_iload_n C rfl dX5_back_49 ?_
              refine al_116 (v := y 3 i0) C (i0) rfl (by omega) rfl dX5_back_50 ?_
              refine z_if_eq (tgt := 58) C dX5_back_51 (by decide) (fun h_51 => ?_) (fun h_51 => ?_)
              · exact absurd h_51 h3
              · skip
                refine z_iconst (v := 2) C (by decide +kernel) dX5_back_54 ?_
                refine z_goto (tgt := 59) C dX5_back_55 (by decide) ?_
                refine pf_X5_51 (x := 2) C dX5_back_59 ?_
                refine z_iinc (v := nI (i0 + 1)) (ls' := [some (.ref (n0 + 113)), some (.int (nI k)), some (.int x), some (.int (nI (i0 + 1)))]) C rfl (cv_inc i0 1) (by decide) rfl dX5_back_62 ?_
                refine z_goto (tgt := 22) C dX5_back_65 (by decide) ?_
                refine z_iload_n C rfl dX5_back_22 ?_
                refine z_bipush (v := 48) C (by decide +kernel) dX5_back_23 ?_
                refine z_icmp_ge (tgt := 68) C dX5_back_25 (by decide) (fun h_25 => ?_) (fun h_25 => ?_)
                · have g_25 := cv_le (a := 48) (b := i0 + 1) (by omega) (by omega) h_25
                  refine z_aload_n C rfl dX5_back_68 ?_
                  refine gf_X5_51 (v := 2) C rfl dX5_back_69 ?_
                  refine z_if_le (tgt := 77) C dX5_back_72 (by decide) (fun h_72 => ?_) (fun h_72 => ?_)
                  · exact absurd h_72 (by decide +kernel)
                  · skip
                    refine z_iconst (v := 0) C (by decide +kernel) dX5_back_75 ?_
                    exact z_endI (hret _ _ dX5_back_76) rfl rfl
                · have g_25 := cv_nle (a := 48) (b := i0 + 1) (by omega) (by omega) h_25
                  refine z_aload_n C rfl dX5_back_28 ?_
                  refine gf_X5_51 (v := 2) C rfl dX5_back_29 ?_
                  refine z_if_ne (tgt := 68) C dX5_back_32 (by decide) (fun h_32 => ?_) (fun h_32 => ?_)
                  · skip
                    refine z_aload_n C rfl dX5_back_68 ?_
                    refine gf_X5_51 (v := 2) C rfl dX5_back_69 ?_
                    refine z_if_le (tgt := 77) C dX5_back_72 (by decide) (fun h_72 => ?_) (fun h_72 => ?_)
                    · exact absurd h_72 (by decide +kernel)
                    · skip
                      refine z_iconst (v := 0) C (by decide +kernel) dX5_back_75 ?_
                      exact z_endI (hret _ _ dX5_back_76) rfl rfl
                  · exact absurd h_32 (by decide +kernel)
      · intro i hi_22 ih_22
        refine z_iload_n C rfl dX5_back_22 ?_
        refine z_bipush (v := 48) C (by decide +kernel) dX5_back_23 ?_
        refine z_icmp_ge (tgt := 68) C dX5_back_25 (by decide) (fun h_25 => ?_) (fun h_25 => ?_)
        · have g_25 := cv_le (a := 48) (b := i) (by omega) (by omega) h_25
          exact absurd g_25 (by omega)
        · have g_25 := cv_nle (a := 48) (b := i) (by omega) (by omega) h_25
          refine z_aload_n C rfl dX5_back_28 ?_
          refine gf_X5_51 (v := 0) C (by rw [hy]; exact up_self) dX5_back_29 ?_
          refine z_if_ne (tgt := 68) C dX5_back_32 (by decide) (fun h_32 => ?_) (fun h_32 => ?_)
          · exact absurd h_32 (by decide +kernel)
          · skip
            refine z_aload_n C rfl dX5_back_35 ?_
            refine z_aload_n C rfl dX5_back_36 ?_
            refine gf_X5_7 C dX5_back_37 ?_
            refine z_iload_n C rfl dX5_back_40 ?_
            refine al_114 (v := y 1 i) C (i) rfl (by omega) rfl dX5_back_41 ?_
            refine z_if_eq (tgt := 58) C dX5_back_42 (by decide) (fun h_42 => ?_) (fun h_42 => ?_)
            · skip
              refine z_iconst (v := 0) C (by decide +kernel) dX5_back_58 ?_
              refine pf_X5_51 (x := 0) C dX5_back_59 ?_
              refine z_iinc (v := nI (i + 1)) (ls' := [some (.ref (n0 + 113)), some (.int (nI k)), some (.int x), some (.int (nI (i + 1)))]) C rfl (cv_inc i 1) (by decide) rfl dX5_back_62 ?_
              refine z_goto (tgt := 22) C dX5_back_65 (by decide) ?_
              exact z_cast (σ1 := (κ, y, o)) (ls' := [some (.ref (n0 + 113)), some (.int (nI k)), some (.int x), some (.int (nI (i + 1)))]) (st' := []) (ih_22) (st_m (by rw [hy, up2])) ⟨rfl, rfl, rfl, rfl, trivial⟩ rfl
            · skip
              refine z_aload_n C rfl dX5_back_45 ?_
              refine gf_X5_17 C dX5_back_46 ?_
              refine z_iload_n C rfl dX5_back_49 ?_
              refine al_116 (v := y 3 i) C (i) rfl (by omega) rfl dX5_back_50 ?_
              refine z_if_eq (tgt := 58) C dX5_back_51 (by decide) (fun h_51 => ?_) (fun h_51 => ?_)
              · skip
                refine z_iconst (v := 0) C (by decide +kernel) dX5_back_58 ?_
                refine pf_X5_51 (x := 0) C dX5_back_59 ?_
                refine z_iinc (v := nI (i + 1)) (ls' := [some (.ref (n0 + 113)), some (.int (nI k)), some (.int x), some (.int (nI (i + 1)))]) C rfl (cv_inc i 1) (by decide) rfl dX5_back_62 ?_
                refine z_goto (tgt := 22) C dX5_back_65 (by decide) ?_
                exact z_cast (σ1 := (κ, y, o)) (ls' := [some (.ref (n0 + 113)), some (.int (nI k)), some (.int x), some (.int (nI (i + 1)))]) (st' := []) (ih_22) (st_m (by rw [hy, up2])) ⟨rfl, rfl, rfl, rfl, trivial⟩ rfl
              · exact (hno i hi_22).elim (fun q => absurd q h_42) (fun q => absurd q h_51)
    · have g_9 := cv_nle (a := k) (b := 159) (by omega) (by omega) h_9
      exact absurd g_9 (by omega)
set_option maxHeartbeats 4000000 in
set_option maxRecDepth 100000 in
theorem c_X5_back (l : Launch) (D : DD) (n0 : Nat) (κ μ : KH) (o : Int64) (k : Nat) (x : Int32) (hk : k < 160) (y : KH) (hy : y = up μ 0 0 0) (hno : ∀ i, i < 48 → y 1 i = 0 ∨ y 3 i = 0) : HM l D n0 yX5_back cX5_back 4 (some .int) 0 0 [.ref (n0 + 113), .int (nI k), .int x] (κ, μ, o) (some (.int (y 9 k))) (κ, up y 9 k x, o) := by
  refine HM.of (by decide) (by simp [Value.category]) (by simp) (Or.inr (Or.inl ⟨_, .int, rfl, rfl, rfl⟩)) ?_
  intro pp ee ss mm aa bb me cd Q C K hret
  show ZZ pp l ee (rmk 0 0) ss mm aa bb me cd D n0 127 4 0 0 Q _ 0 [some (.ref (n0 + 113)), some (.int (nI k)), some (.int x), none] []
  refine z_aload_n C rfl dX5_back_0 ?_
  refine z_iload_n C rfl dX5_back_1 ?_
  refine z_if_lt (tgt := 12) C dX5_back_2 (by decide) (fun h_2 => ?_) (fun h_2 => ?_)
  · exact absurd h_2 (nI_pos (by omega))
  · skip
    refine z_iload_n C rfl dX5_back_5 ?_
    refine z_sipush (v := 159) C (by decide +kernel) dX5_back_6 ?_
    refine z_icmp_le (tgt := 16) C dX5_back_9 (by decide) (fun h_9 => ?_) (fun h_9 => ?_)
    · have g_9 := cv_le (a := k) (b := 159) (by omega) (by omega) h_9
      refine z_iconst (v := 0) C (by decide +kernel) dX5_back_16 ?_
      refine pf_X5_51 (x := 0) C dX5_back_17 ?_
      refine z_iconst (v := 0) C (by decide +kernel) dX5_back_20 ?_
      refine z_istore_n (ls' := [some (.ref (n0 + 113)), some (.int (nI k)), some (.int x), some (.int 0)]) C (by decide) rfl dX5_back_21 ?_
      refine z_cast (σ1 := (κ, y, o)) (ls' := [some (.ref (n0 + 113)), some (.int (nI k)), some (.int x), some (.int (nI 0))]) (st' := []) (z_for (P := fun i => ZZ pp l ee (rmk 0 0) ss mm aa bb me cd D n0 127 4 0 0 Q (κ, y, o) 22 [some (.ref (n0 + 113)), some (.int (nI k)), some (.int x), some (.int (nI i))] []) (48) ?_ ?_ 0 (Nat.zero_le _)) (st_m hy.symm) ⟨rfl, rfl, rfl, rfl, trivial⟩ rfl
      · skip
        refine z_iload_n C rfl dX5_back_22 ?_
        refine z_bipush (v := 48) C (by decide +kernel) dX5_back_23 ?_
        refine z_icmp_ge (tgt := 68) C dX5_back_25 (by decide) (fun h_25 => ?_) (fun h_25 => ?_)
        · have g_25 := cv_le (a := 48) (b := 48) (by omega) (by omega) h_25
          refine z_aload_n C rfl dX5_back_68 ?_
          refine gf_X5_51 (v := 0) C (by rw [hy]; exact up_self) dX5_back_69 ?_
          refine z_if_le (tgt := 77) C dX5_back_72 (by decide) (fun h_72 => ?_) (fun h_72 => ?_)
          · skip
            refine z_aload_n C rfl dX5_back_77 ?_
            refine gf_X5_39 C dX5_back_78 ?_
            refine z_iload_n C rfl dX5_back_81 ?_
            refine al_122 (v := y 9 k) C (k) rfl (by omega) rfl dX5_back_82 ?_
            refine z_istore_n (ls' := [some (.ref (n0 + 113)), some (.int (nI k)), some (.int x), some (.int (y 9 k))]) C (by decide) rfl dX5_back_83 ?_
            refine z_aload_n C rfl dX5_back_84 ?_
            refine gf_X5_39 C dX5_back_85 ?_
            refine z_iload_n C rfl dX5_back_88 ?_
            refine z_iload_n C rfl dX5_back_89 ?_
            refine as_122 (x := x) C (k) rfl (by omega) dX5_back_90 ?_
            refine z_iload_n C rfl dX5_back_91 ?_
            exact z_endI (hret _ _ dX5_back_92) rfl rfl
          · exact absurd h_72 (by decide +kernel)
        · have g_25 := cv_nle (a := 48) (b := 48) (by omega) (by omega) h_25
          exact absurd g_25 (by omega)
      · intro i hi_22 ih_22
        refine z_iload_n C rfl dX5_back_22 ?_
        refine z_bipush (v := 48) C (by decide +kernel) dX5_back_23 ?_
        refine z_icmp_ge (tgt := 68) C dX5_back_25 (by decide) (fun h_25 => ?_) (fun h_25 => ?_)
        · have g_25 := cv_le (a := 48) (b := i) (by omega) (by omega) h_25
          exact absurd hi_22 (by omega)
        · have g_25 := cv_nle (a := 48) (b := i) (by omega) (by omega) h_25
          refine z_aload_n C rfl dX5_back_28 ?_
          refine gf_X5_51 (v := 0) C (by rw [hy]; exact up_self) dX5_back_29 ?_
          refine z_if_ne (tgt := 68) C dX5_back_32 (by decide) (fun h_32 => ?_) (fun h_32 => ?_)
          · exact absurd h_32 (by decide +kernel)
          · skip
            refine z_aload_n C rfl dX5_back_35 ?_
            refine z_aload_n C rfl dX5_back_36 ?_
            refine gf_X5_7 C dX5_back_37 ?_
            refine z_iload_n C rfl dX5_back_40 ?_
            refine al_114 (v := y 1 i) C (i) rfl (by omega) rfl dX5_back_41 ?_
            refine z_if_eq (tgt := 58) C dX5_back_42 (by decide) (fun h_42 => ?_) (fun h_42 => ?_)
            · skip
              refine z_iconst (v := 0) C (by decide +kernel) dX5_back_58 ?_
              refine pf_X5_51 (x := 0) C dX5_back_59 ?_
              refine z_iinc (v := nI (i + 1)) (ls' := [some (.ref (n0 + 113)), some (.int (nI k)), some (.int x), some (.int (nI (i + 1)))]) C rfl (cv_inc i 1) (by decide) rfl dX5_back_62 ?_
              refine z_goto (tgt := 22) C dX5_back_65 (by decide) ?_
              exact z_cast (σ1 := (κ, y, o)) (ls' := [some (.ref (n0 + 113)), some (.int (nI k)), some (.int x), some (.int (nI (i + 1)))]) (st' := []) (ih_22) (st_m (by rw [hy, up2])) ⟨rfl, rfl, rfl, rfl, trivial⟩ rfl
            · skip
              refine z_aload_n C rfl dX5_back_45 ?_
              refine gf_X5_17 C dX5_back_46 ?_
              refine z_iload_n C rfl dX5_back_49 ?_
              refine al_116 (v := y 3 i) C (i) rfl (by omega) rfl dX5_back_50 ?_
              refine z_if_eq (tgt := 58) C dX5_back_51 (by decide) (fun h_51 => ?_) (fun h_51 => ?_)
              · skip
                refine z_iconst (v := 0) C (by decide +kernel) dX5_back_58 ?_
                refine pf_X5_51 (x := 0) C dX5_back_59 ?_
                refine z_iinc (v := nI (i + 1)) (ls' := [some (.ref (n0 + 113)), some (.int (nI k)), some (.int x), some (.int (nI (i + 1)))]) C rfl (cv_inc i 1) (by decide) rfl dX5_back_62 ?_
                refine z_goto (tgt := 22) C dX5_back_65 (by decide) ?_
                exact z_cast (σ1 := (κ, y, o)) (ls' := [some (.ref (n0 + 113)), some (.int (nI k)), some (.int x), some (.int (nI (i + 1)))]) (st' := []) (ih_22) (st_m (by rw [hy, up2])) ⟨rfl, rfl, rfl, rfl, trivial⟩ rfl
              · exact (hno i hi_22).elim (fun q => absurd q h_42) (fun q => absurd q h_51)
    · have g_9 := cv_nle (a := k) (b := 159) (by omega) (by omega) h_9
      exact absurd g_9 (by omega)
set_option maxHeartbeats 4000000 in
set_option maxRecDepth 100000 in
theorem c_X5_quota_1 (l : Launch) (D : DD) (n0 : Nat) (κ μ : KH) (o : Int64) (v n : Int32) (hb : ¬ okV1 μ v) : HM l D n0 yX5_quota cX5_quota 4 (some .int) 2 41 [.ref (n0 + 113), .int v, .int n] (κ, μ, o) (some (.int 0)) (κ, up μ 0 0 1, o) := by
  refine HM.of (by decide) (by simp [Value.category]) (by simp) (Or.inr (Or.inl ⟨_, .int, rfl, rfl, rfl⟩)) ?_
  intro pp ee ss mm aa bb me cd Q C K hret
  show ZZ pp l ee (rmk 2 41) ss mm aa bb me cd D n0 127 4 0 0 Q _ 0 [some (.ref (n0 + 113)), some (.int v), some (.int n), none] []
  refine z_aload_n C rfl dX5_quota_0 ?_
  refine z_aload_n C rfl dX5_quota_1 ?_
  refine z_iload_n C rfl dX5_quota_2 ?_
  rcases vNum_or v with hv | ⟨j, hj, rfl⟩
  · skip
    refine z_callV (As := [.int v]) (r := (some (.int 0))) (σ1 := (κ, μ, o)) (st := [.ref (n0 + 113)]) (st1 := [.int 0, .ref (n0 + 113)]) C K ok_X5_126 (c_X5_isVolume_n l D n0 κ μ o v hv) enc_M (by decide) rfl rfl ⟨by decide, by decide⟩ ⟨Nat.zero_le _, Nat.zero_le _⟩ (by simp [Value.category]) dX5_quota_3 rfl rfl ?_
    refine z_if_ne (tgt := 13) C dX5_quota_6 (by decide) (fun h_6 => ?_) (fun h_6 => ?_)
    · exact absurd h_6 (by decide +kernel)
    · skip
      refine z_iconst (v := 1) C (by decide +kernel) dX5_quota_9 ?_
      refine z_goto (tgt := 29) C dX5_quota_10 (by decide) ?_
      refine pf_X5_51 (x := 1) C dX5_quota_29 ?_
      refine z_aload_n C rfl dX5_quota_32 ?_
      refine gf_X5_51 (v := 1) C rfl dX5_quota_33 ?_
      refine z_if_le (tgt := 41) C dX5_quota_36 (by decide) (fun h_36 => ?_) (fun h_36 => ?_)
      · exact absurd h_36 (by decide +kernel)
      · skip
        refine z_iconst (v := 0) C (by decide +kernel) dX5_quota_39 ?_
        exact z_endI (hret _ _ dX5_quota_40) rfl rfl
  · skip
    refine z_callV (As := [.int (nI j)]) (r := (some (.int (b2i (!decide (μ 1 j = 0)))))) (σ1 := (κ, μ, o)) (st := [.ref (n0 + 113)]) (st1 := [.int (b2i (!decide (μ 1 j = 0))), .ref (n0 + 113)]) C K ok_X5_126 (c_X5_isVolume l D n0 κ μ o j (by omega)) enc_M (by decide) rfl rfl ⟨by decide, by decide⟩ ⟨Nat.zero_le _, Nat.zero_le _⟩ (by simp [Value.category]) dX5_quota_3 rfl rfl ?_
    refine z_if_ne (tgt := 13) C dX5_quota_6 (by decide) (fun h_6 => ?_) (fun h_6 => ?_)
    · have g_6 := cv_b1 h_6
      exact absurd ⟨j, hj, rfl, b_ne g_6⟩ hb
    · have g_6 := cv_b0 h_6
      refine z_iconst (v := 1) C (by decide +kernel) dX5_quota_9 ?_
      refine z_goto (tgt := 29) C dX5_quota_10 (by decide) ?_
      refine pf_X5_51 (x := 1) C dX5_quota_29 ?_
      refine z_aload_n C rfl dX5_quota_32 ?_
      refine gf_X5_51 (v := 1) C rfl dX5_quota_33 ?_
      refine z_if_le (tgt := 41) C dX5_quota_36 (by decide) (fun h_36 => ?_) (fun h_36 => ?_)
      · exact absurd h_36 (by decide +kernel)
      · skip
        refine z_iconst (v := 0) C (by decide +kernel) dX5_quota_39 ?_
        exact z_endI (hret _ _ dX5_quota_40) rfl rfl
set_option maxHeartbeats 4000000 in
set_option maxRecDepth 100000 in
theorem c_X5_quota_2 (l : Launch) (D : DD) (n0 : Nat) (κ μ : KH) (o : Int64) (j : Nat) (n : Int32) (hj : j < 16) (h1 : μ 1 j ≠ 0) (hb : n < -1 ∨ 40 < n) : HM l D n0 yX5_quota cX5_quota 4 (some .int) 2 41 [.ref (n0 + 113), .int (nI j), .int n] (κ, μ, o) (some (.int 0)) (κ, up μ 0 0 2, o) := by
  refine HM.of (by decide) (by simp [Value.category]) (by simp) (Or.inr (Or.inl ⟨_, .int, rfl, rfl, rfl⟩)) ?_
  intro pp ee ss mm aa bb me cd Q C K hret
  show ZZ pp l ee (rmk 2 41) ss mm aa bb me cd D n0 127 4 0 0 Q _ 0 [some (.ref (n0 + 113)), some (.int (nI j)), some (.int n), none] []
  refine z_aload_n C rfl dX5_quota_0 ?_
  refine z_aload_n C rfl dX5_quota_1 ?_
  refine z_iload_n C rfl dX5_quota_2 ?_
  refine z_callV (As := [.int (nI j)]) (r := (some (.int (b2i (!decide (μ 1 j = 0)))))) (σ1 := (κ, μ, o)) (st := [.ref (n0 + 113)]) (st1 := [.int (b2i (!decide (μ 1 j = 0))), .ref (n0 + 113)]) C K ok_X5_126 (c_X5_isVolume l D n0 κ μ o j (by omega)) enc_M (by decide) rfl rfl ⟨by decide, by decide⟩ ⟨Nat.zero_le _, Nat.zero_le _⟩ (by simp [Value.category]) dX5_quota_3 rfl rfl ?_
  refine z_if_ne (tgt := 13) C dX5_quota_6 (by decide) (fun h_6 => ?_) (fun h_6 => ?_)
  · have g_6 := cv_b1 h_6
    refine z_iload_n C rfl dX5_quota_13 ?_
    refine z_iconst (v := (-1)) C (by decide +kernel) dX5_quota_14 ?_
    refine z_icmp_lt (tgt := 24) C dX5_quota_15 (by decide) (fun h_15 => ?_) (fun h_15 => ?_)
    · skip
      refine z_iconst (v := 2) C (by decide +kernel) dX5_quota_24 ?_
      refine z_goto (tgt := 29) C dX5_quota_25 (by decide) ?_
      refine pf_X5_51 (x := 2) C dX5_quota_29 ?_
      refine z_aload_n C rfl dX5_quota_32 ?_
      refine gf_X5_51 (v := 2) C rfl dX5_quota_33 ?_
      refine z_if_le (tgt := 41) C dX5_quota_36 (by decide) (fun h_36 => ?_) (fun h_36 => ?_)
      · exact absurd h_36 (by decide +kernel)
      · skip
        refine z_iconst (v := 0) C (by decide +kernel) dX5_quota_39 ?_
        exact z_endI (hret _ _ dX5_quota_40) rfl rfl
    · skip
      refine z_iload_n C rfl dX5_quota_18 ?_
      refine z_bipush (v := 40) C (by decide +kernel) dX5_quota_19 ?_
      refine z_icmp_le (tgt := 28) C dX5_quota_21 (by decide) (fun h_21 => ?_) (fun h_21 => ?_)
      · exact absurd hb (fun q => q.elim h_15 (Int32.not_lt.mpr h_21))
      · skip
        refine z_iconst (v := 2) C (by decide +kernel) dX5_quota_24 ?_
        refine z_goto (tgt := 29) C dX5_quota_25 (by decide) ?_
        refine pf_X5_51 (x := 2) C dX5_quota_29 ?_
        refine z_aload_n C rfl dX5_quota_32 ?_
        refine gf_X5_51 (v := 2) C rfl dX5_quota_33 ?_
        refine z_if_le (tgt := 41) C dX5_quota_36 (by decide) (fun h_36 => ?_) (fun h_36 => ?_)
        · exact absurd h_36 (by decide +kernel)
        · skip
          refine z_iconst (v := 0) C (by decide +kernel) dX5_quota_39 ?_
          exact z_endI (hret _ _ dX5_quota_40) rfl rfl
  · have g_6 := cv_b0 h_6
    exact absurd g_6 (by simp [h1])
set_option maxHeartbeats 4000000 in
set_option maxRecDepth 100000 in
theorem c_X5_quota (l : Launch) (D : DD) (n0 : Nat) (κ μ : KH) (o : Int64) (j : Nat) (n : Int32) (hj : j < 16) (h1 : μ 1 j ≠ 0) (hb1 : ¬ n < -1) (hb2 : n ≤ 40) (y : KH) (hy : y = up μ 0 0 0) (hD1 : mD (up y 4 j n) (nQ (up y 4 j n))) : HM l D n0 yX5_quota cX5_quota 4 (some .int) 7 165 [.ref (n0 + 113), .int (nI j), .int n] (κ, μ, o) (some (.int (y 4 j))) (κ, mDrain (up y 4 j n), o) := by
  refine HM.of (by decide) (by simp [Value.category]) (by simp) (Or.inr (Or.inl ⟨_, .int, rfl, rfl, rfl⟩)) ?_
  intro pp ee ss mm aa bb me cd Q C K hret
  show ZZ pp l ee (rmk 7 165) ss mm aa bb me cd D n0 127 4 0 0 Q _ 0 [some (.ref (n0 + 113)), some (.int (nI j)), some (.int n), none] []
  refine z_aload_n C rfl dX5_quota_0 ?_
  refine z_aload_n C rfl dX5_quota_1 ?_
  refine z_iload_n C rfl dX5_quota_2 ?_
  refine z_callV (As := [.int (nI j)]) (r := (some (.int (b2i (!decide (μ 1 j = 0)))))) (σ1 := (κ, μ, o)) (st := [.ref (n0 + 113)]) (st1 := [.int (b2i (!decide (μ 1 j = 0))), .ref (n0 + 113)]) C K ok_X5_126 (c_X5_isVolume l D n0 κ μ o j (by omega)) enc_M (by decide) rfl rfl ⟨by decide, by decide⟩ ⟨Nat.zero_le _, Nat.zero_le _⟩ (by simp [Value.category]) dX5_quota_3 rfl rfl ?_
  refine z_if_ne (tgt := 13) C dX5_quota_6 (by decide) (fun h_6 => ?_) (fun h_6 => ?_)
  · have g_6 := cv_b1 h_6
    refine z_iload_n C rfl dX5_quota_13 ?_
    refine z_iconst (v := (-1)) C (by decide +kernel) dX5_quota_14 ?_
    refine z_icmp_lt (tgt := 24) C dX5_quota_15 (by decide) (fun h_15 => ?_) (fun h_15 => ?_)
    · exact absurd h_15 hb1
    · skip
      refine z_iload_n C rfl dX5_quota_18 ?_
      refine z_bipush (v := 40) C (by decide +kernel) dX5_quota_19 ?_
      refine z_icmp_le (tgt := 28) C dX5_quota_21 (by decide) (fun h_21 => ?_) (fun h_21 => ?_)
      · skip
        refine z_iconst (v := 0) C (by decide +kernel) dX5_quota_28 ?_
        refine pf_X5_51 (x := 0) C dX5_quota_29 ?_
        rw [← hy]
        refine z_aload_n C rfl dX5_quota_32 ?_
        refine gf_X5_51 (v := 0) C (by rw [hy]; exact up_self) dX5_quota_33 ?_
        refine z_if_le (tgt := 41) C dX5_quota_36 (by decide) (fun h_36 => ?_) (fun h_36 => ?_)
        · skip
          refine z_aload_n C rfl dX5_quota_41 ?_
          refine gf_X5_20 C dX5_quota_42 ?_
          refine z_iload_n C rfl dX5_quota_45 ?_
          refine al_117 (v := y 4 j) C (j) rfl (by omega) rfl dX5_quota_46 ?_
          refine z_istore_n (ls' := [some (.ref (n0 + 113)), some (.int (nI j)), some (.int n), some (.int (y 4 j))]) C (by decide) rfl dX5_quota_47 ?_
          refine z_aload_n C rfl dX5_quota_48 ?_
          refine gf_X5_20 C dX5_quota_49 ?_
          refine z_iload_n C rfl dX5_quota_52 ?_
          refine z_iload_n C rfl dX5_quota_53 ?_
          refine as_117 (x := n) C (j) rfl (by omega) dX5_quota_54 ?_
          refine z_aload_n C rfl dX5_quota_55 ?_
          refine z_callV (As := []) (r := none) (σ1 := (κ, mDrain (up y 4 j n), o)) (st := []) (st1 := []) C K ok_X5_150 (c_X5_drain l D n0 κ (up y 4 j n) o hD1) enc_M (by decide) rfl rfl ⟨by decide, by decide⟩ ⟨Nat.zero_le _, Nat.zero_le _⟩ (by simp [Value.category]) dX5_quota_56 rfl rfl ?_
          refine z_iload_n C rfl dX5_quota_59 ?_
          exact z_endI (hret _ _ dX5_quota_60) rfl rfl
        · exact absurd h_36 (by decide +kernel)
      · exact absurd hb2 h_21
  · have g_6 := cv_b0 h_6
    exact absurd g_6 (by simp [h1])
set_option maxHeartbeats 4000000 in
set_option maxRecDepth 100000 in
theorem c_X5_mark_n (l : Launch) (D : DD) (n0 : Nat) (κ μ : KH) (o : Int64) (a b : Int32) (y : KH) (hy : y = up μ 0 0 0) (hne : ¬ y 7 0 = a) : HM l D n0 yX5_mark cX5_mark 3 (some .boolean) 0 0 [.ref (n0 + 113), .int a, .int b] (κ, μ, o) (some (.int 0)) (κ, y, o) := by
  refine HM.of (by decide) (by simp [Value.category]) (by simp) (Or.inr (Or.inl ⟨_, .boolean, rfl, rfl, (by decide +kernel)⟩)) ?_
  intro pp ee ss mm aa bb me cd Q C K hret
  show ZZ pp l ee (rmk 0 0) ss mm aa bb me cd D n0 127 3 0 0 Q _ 0 [some (.ref (n0 + 113)), some (.int a), some (.int b)] []
  refine z_aload_n C rfl dX5_mark_0 ?_
  refine z_iconst (v := 0) C (by decide +kernel) dX5_mark_1 ?_
  refine pf_X5_51 (x := 0) C dX5_mark_2 ?_
  rw [← hy]
  refine z_aload_n C rfl dX5_mark_5 ?_
  refine gf_X5_29 C dX5_mark_6 ?_
  refine z_iconst (v := 0) C (by decide +kernel) dX5_mark_9 ?_
  refine al_120 (v := y 7 0) C (0) rfl (by omega) rfl dX5_mark_10 ?_
  refine z_iload_n C rfl dX5_mark_11 ?_
  refine z_icmp_eq (tgt := 17) C dX5_mark_12 (by decide) (fun h_12 => ?_) (fun h_12 => ?_)
  · exact absurd h_12 hne
  · skip
    refine z_iconst (v := 0) C (by decide +kernel) dX5_mark_15 ?_
    exact z_endI (hret _ _ dX5_mark_16) rfl rfl
set_option maxHeartbeats 4000000 in
set_option maxRecDepth 100000 in
theorem c_X5_mark (l : Launch) (D : DD) (n0 : Nat) (κ μ : KH) (o : Int64) (a b : Int32) (y : KH) (hy : y = up μ 0 0 0) (he : y 7 0 = a) : HM l D n0 yX5_mark cX5_mark 3 (some .boolean) 0 0 [.ref (n0 + 113), .int a, .int b] (κ, μ, o) (some (.int 1)) (κ, up y 7 0 b, o) := by
  refine HM.of (by decide) (by simp [Value.category]) (by simp) (Or.inr (Or.inl ⟨_, .boolean, rfl, rfl, (by decide +kernel)⟩)) ?_
  intro pp ee ss mm aa bb me cd Q C K hret
  show ZZ pp l ee (rmk 0 0) ss mm aa bb me cd D n0 127 3 0 0 Q _ 0 [some (.ref (n0 + 113)), some (.int a), some (.int b)] []
  refine z_aload_n C rfl dX5_mark_0 ?_
  refine z_iconst (v := 0) C (by decide +kernel) dX5_mark_1 ?_
  refine pf_X5_51 (x := 0) C dX5_mark_2 ?_
  rw [← hy]
  refine z_aload_n C rfl dX5_mark_5 ?_
  refine gf_X5_29 C dX5_mark_6 ?_
  refine z_iconst (v := 0) C (by decide +kernel) dX5_mark_9 ?_
  refine al_120 (v := y 7 0) C (0) rfl (by omega) rfl dX5_mark_10 ?_
  refine z_iload_n C rfl dX5_mark_11 ?_
  refine z_icmp_eq (tgt := 17) C dX5_mark_12 (by decide) (fun h_12 => ?_) (fun h_12 => ?_)
  · skip
    refine z_aload_n C rfl dX5_mark_17 ?_
    refine gf_X5_29 C dX5_mark_18 ?_
    refine z_iconst (v := 0) C (by decide +kernel) dX5_mark_21 ?_
    refine z_iload_n C rfl dX5_mark_22 ?_
    refine as_120 (x := b) C (0) rfl (by omega) dX5_mark_23 ?_
    refine z_iconst (v := 1) C (by decide +kernel) dX5_mark_24 ?_
    exact z_endI (hret _ _ dX5_mark_25) rfl rfl
  · exact absurd he h_12
set_option maxHeartbeats 4000000 in
set_option maxRecDepth 100000 in
theorem c_X5_marked_1 (l : Launch) (D : DD) (n0 : Nat) (κ μ : KH) (o : Int64) (s : Int32) (hb : s < 0 ∨ 2 < s) : HM l D n0 yX5_marked cX5_marked 2 (some .int) 0 0 [.ref (n0 + 113), .int s] (κ, μ, o) (some (.int 0)) (κ, up μ 0 0 1, o) := by
  refine HM.of (by decide) (by simp [Value.category]) (by simp) (Or.inr (Or.inl ⟨_, .int, rfl, rfl, rfl⟩)) ?_
  intro pp ee ss mm aa bb me cd Q C K hret
  show ZZ pp l ee (rmk 0 0) ss mm aa bb me cd D n0 127 2 0 0 Q _ 0 [some (.ref (n0 + 113)), some (.int s)] []
  refine z_aload_n C rfl dX5_marked_0 ?_
  refine z_iload_n C rfl dX5_marked_1 ?_
  refine z_if_lt (tgt := 10) C dX5_marked_2 (by decide) (fun h_2 => ?_) (fun h_2 => ?_)
  · skip
    refine z_iconst (v := 1) C (by decide +kernel) dX5_marked_10 ?_
    refine z_goto (tgt := 15) C dX5_marked_11 (by decide) ?_
    refine pf_X5_51 (x := 1) C dX5_marked_15 ?_
    refine z_aload_n C rfl dX5_marked_18 ?_
    refine gf_X5_51 (v := 1) C rfl dX5_marked_19 ?_
    refine z_if_ne (tgt := 34) C dX5_marked_22 (by decide) (fun h_22 => ?_) (fun h_22 => ?_)
    · skip
      refine z_iconst (v := 0) C (by decide +kernel) dX5_marked_34 ?_
      exact z_endI (hret _ _ dX5_marked_35) rfl rfl
    · exact absurd h_22 (by decide +kernel)
  · skip
    refine z_iload_n C rfl dX5_marked_5 ?_
    refine z_iconst (v := 2) C (by decide +kernel) dX5_marked_6 ?_
    refine z_icmp_le (tgt := 14) C dX5_marked_7 (by decide) (fun h_7 => ?_) (fun h_7 => ?_)
    · exact absurd hb (fun q => q.elim h_2 (Int32.not_lt.mpr h_7))
    · skip
      refine z_iconst (v := 1) C (by decide +kernel) dX5_marked_10 ?_
      refine z_goto (tgt := 15) C dX5_marked_11 (by decide) ?_
      refine pf_X5_51 (x := 1) C dX5_marked_15 ?_
      refine z_aload_n C rfl dX5_marked_18 ?_
      refine gf_X5_51 (v := 1) C rfl dX5_marked_19 ?_
      refine z_if_ne (tgt := 34) C dX5_marked_22 (by decide) (fun h_22 => ?_) (fun h_22 => ?_)
      · skip
        refine z_iconst (v := 0) C (by decide +kernel) dX5_marked_34 ?_
        exact z_endI (hret _ _ dX5_marked_35) rfl rfl
      · exact absurd h_22 (by decide +kernel)
set_option maxHeartbeats 4000000 in
set_option maxRecDepth 100000 in
theorem c_X5_marked (l : Launch) (D : DD) (n0 : Nat) (κ μ : KH) (o : Int64) (s : Nat) (hs : s < 3) (y : KH) (hy : y = up μ 0 0 0) : HM l D n0 yX5_marked cX5_marked 2 (some .int) 0 0 [.ref (n0 + 113), .int (nI s)] (κ, μ, o) (some (.int (y 7 s))) (κ, y, o) := by
  refine HM.of (by decide) (by simp [Value.category]) (by simp) (Or.inr (Or.inl ⟨_, .int, rfl, rfl, rfl⟩)) ?_
  intro pp ee ss mm aa bb me cd Q C K hret
  show ZZ pp l ee (rmk 0 0) ss mm aa bb me cd D n0 127 2 0 0 Q _ 0 [some (.ref (n0 + 113)), some (.int (nI s))] []
  refine z_aload_n C rfl dX5_marked_0 ?_
  refine z_iload_n C rfl dX5_marked_1 ?_
  refine z_if_lt (tgt := 10) C dX5_marked_2 (by decide) (fun h_2 => ?_) (fun h_2 => ?_)
  · exact absurd h_2 (nI_pos (by omega))
  · skip
    refine z_iload_n C rfl dX5_marked_5 ?_
    refine z_iconst (v := 2) C (by decide +kernel) dX5_marked_6 ?_
    refine z_icmp_le (tgt := 14) C dX5_marked_7 (by decide) (fun h_7 => ?_) (fun h_7 => ?_)
    · have g_7 := cv_le (a := s) (b := 2) (by omega) (by omega) h_7
      refine z_iconst (v := 0) C (by decide +kernel) dX5_marked_14 ?_
      refine pf_X5_51 (x := 0) C dX5_marked_15 ?_
      rw [← hy]
      refine z_aload_n C rfl dX5_marked_18 ?_
      refine gf_X5_51 (v := 0) C (by rw [hy]; exact up_self) dX5_marked_19 ?_
      refine z_if_ne (tgt := 34) C dX5_marked_22 (by decide) (fun h_22 => ?_) (fun h_22 => ?_)
      · exact absurd h_22 (by decide +kernel)
      · skip
        refine z_aload_n C rfl dX5_marked_25 ?_
        refine gf_X5_29 C dX5_marked_26 ?_
        refine z_iload_n C rfl dX5_marked_29 ?_
        refine al_120 (v := y 7 s) C (s) rfl (by omega) rfl dX5_marked_30 ?_
        refine z_goto (tgt := 35) C dX5_marked_31 (by decide) ?_
        exact z_endI (hret _ _ dX5_marked_35) rfl rfl
    · have g_7 := cv_nle (a := s) (b := 2) (by omega) (by omega) h_7
      exact absurd g_7 (by omega)
set_option maxHeartbeats 4000000 in
set_option maxRecDepth 100000 in
theorem c_X5_commit (l : Launch) (D : DD) (n0 : Nat) (κ μ : KH) (o : Int64) (y : KH) (hy : y = up μ 0 0 0) (hB : mB y) (hD1 : mD (up (mCp y 0 1) 0 22 (mCp y 0 1 0 22 + 1)) (nQ (up (mCp y 0 1) 0 22 (mCp y 0 1 0 22 + 1)))) : HM l D n0 yX5_commit cX5_commit 1 (some .int) 7 165 [.ref (n0 + 113)] (κ, μ, o) (some (.int (mDrain (up (mCp y 0 1) 0 22 (mCp y 0 1 0 22 + 1)) 0 22))) (κ, mDrain (up (mCp y 0 1) 0 22 (mCp y 0 1 0 22 + 1)), o) := by
  refine HM.of (by decide) (by simp [Value.category]) (by simp) (Or.inr (Or.inl ⟨_, .int, rfl, rfl, rfl⟩)) ?_
  intro pp ee ss mm aa bb me cd Q C K hret
  show ZZ pp l ee (rmk 7 165) ss mm aa bb me cd D n0 127 1 0 0 Q _ 0 [some (.ref (n0 + 113))] []
  refine z_aload_n C rfl dX5_commit_0 ?_
  refine z_iconst (v := 0) C (by decide +kernel) dX5_commit_1 ?_
  refine pf_X5_51 (x := 0) C dX5_commit_2 ?_
  rw [← hy]
  refine z_aload_n C rfl dX5_commit_5 ?_
  refine z_iconst (v := 0) C (by decide +kernel) dX5_commit_6 ?_
  refine z_iconst (v := 1) C (by decide +kernel) dX5_commit_7 ?_
  refine z_callV (As := [.int 0, .int 1]) (r := none) (σ1 := (κ, mCp y 0 1, o)) (st := []) (st1 := []) C K ok_X5_160 (c_X5_copy l D n0 κ y o 0 1 (by omega) (by omega) hB) enc_M (by decide) rfl rfl ⟨by decide, by decide⟩ ⟨Nat.zero_le _, Nat.zero_le _⟩ (by simp [Value.category]) dX5_commit_8 rfl rfl ?_
  refine z_aload_n C rfl dX5_commit_11 ?_
  refine z_dup C rfl dX5_commit_12 ?_
  refine gf_X5_163 (v := mCp y 0 1 0 22) C rfl dX5_commit_13 ?_
  refine z_iconst (v := 1) C (by decide +kernel) dX5_commit_16 ?_
  refine z_iadd (v := (mCp y 0 1 0 22) + 1) C rfl dX5_commit_17 ?_
  refine pf_X5_163 (x := (mCp y 0 1 0 22) + 1) C dX5_commit_18 ?_
  refine z_aload_n C rfl dX5_commit_21 ?_
  refine z_callV (As := []) (r := none) (σ1 := (κ, mDrain (up (mCp y 0 1) 0 22 ((mCp y 0 1 0 22) + 1)), o)) (st := []) (st1 := []) C K ok_X5_150 (c_X5_drain l D n0 κ (up (mCp y 0 1) 0 22 ((mCp y 0 1 0 22) + 1)) o hD1) enc_M (by decide) rfl rfl ⟨by decide, by decide⟩ ⟨Nat.zero_le _, Nat.zero_le _⟩ (by simp [Value.category]) dX5_commit_22 rfl rfl ?_
  refine z_aload_n C rfl dX5_commit_25 ?_
  refine gf_X5_163 (v := mDrain (up (mCp y 0 1) 0 22 ((mCp y 0 1 0 22) + 1)) 0 22) C rfl dX5_commit_26 ?_
  exact z_endI (hret _ _ dX5_commit_29) rfl rfl
set_option maxHeartbeats 4000000 in
set_option maxRecDepth 100000 in
theorem c_X5_cut_1 (l : Launch) (D : DD) (n0 : Nat) (κ μ : KH) (o : Int64) (s : Int32) (hb : s < 0 ∨ 2 < s) : HM l D n0 yX5_cut cX5_cut 2 (some .int) 0 0 [.ref (n0 + 113), .int s] (κ, μ, o) (some (.int 0)) (κ, up μ 0 0 1, o) := by
  refine HM.of (by decide) (by simp [Value.category]) (by simp) (Or.inr (Or.inl ⟨_, .int, rfl, rfl, rfl⟩)) ?_
  intro pp ee ss mm aa bb me cd Q C K hret
  show ZZ pp l ee (rmk 0 0) ss mm aa bb me cd D n0 127 2 0 0 Q _ 0 [some (.ref (n0 + 113)), some (.int s)] []
  refine z_aload_n C rfl dX5_cut_0 ?_
  refine z_iload_n C rfl dX5_cut_1 ?_
  refine z_if_lt (tgt := 10) C dX5_cut_2 (by decide) (fun h_2 => ?_) (fun h_2 => ?_)
  · skip
    refine z_iconst (v := 1) C (by decide +kernel) dX5_cut_10 ?_
    refine z_goto (tgt := 15) C dX5_cut_11 (by decide) ?_
    refine pf_X5_51 (x := 1) C dX5_cut_15 ?_
    refine z_aload_n C rfl dX5_cut_18 ?_
    refine gf_X5_51 (v := 1) C rfl dX5_cut_19 ?_
    refine z_if_le (tgt := 27) C dX5_cut_22 (by decide) (fun h_22 => ?_) (fun h_22 => ?_)
    · exact absurd h_22 (by decide +kernel)
    · skip
      refine z_iconst (v := 0) C (by decide +kernel) dX5_cut_25 ?_
      exact z_endI (hret _ _ dX5_cut_26) rfl rfl
  · skip
    refine z_iload_n C rfl dX5_cut_5 ?_
    refine z_iconst (v := 2) C (by decide +kernel) dX5_cut_6 ?_
    refine z_icmp_le (tgt := 14) C dX5_cut_7 (by decide) (fun h_7 => ?_) (fun h_7 => ?_)
    · exact absurd hb (fun q => q.elim h_2 (Int32.not_lt.mpr h_7))
    · skip
      refine z_iconst (v := 1) C (by decide +kernel) dX5_cut_10 ?_
      refine z_goto (tgt := 15) C dX5_cut_11 (by decide) ?_
      refine pf_X5_51 (x := 1) C dX5_cut_15 ?_
      refine z_aload_n C rfl dX5_cut_18 ?_
      refine gf_X5_51 (v := 1) C rfl dX5_cut_19 ?_
      refine z_if_le (tgt := 27) C dX5_cut_22 (by decide) (fun h_22 => ?_) (fun h_22 => ?_)
      · exact absurd h_22 (by decide +kernel)
      · skip
        refine z_iconst (v := 0) C (by decide +kernel) dX5_cut_25 ?_
        exact z_endI (hret _ _ dX5_cut_26) rfl rfl
set_option maxHeartbeats 4000000 in
set_option maxRecDepth 100000 in
theorem c_X5_cut_a (l : Launch) (D : DD) (n0 : Nat) (κ μ : KH) (o : Int64) (y : KH) (hy : y = up μ 0 0 0) (hB : mB y) : HM l D n0 yX5_cut cX5_cut 2 (some .int) 2 50 [.ref (n0 + 113), .int 0] (κ, μ, o) (some (.int (nI (mVol (mCut (y)) 0)))) (κ, mCut (y), o) := by
  refine HM.of (by decide) (by simp [Value.category]) (by simp) (Or.inr (Or.inl ⟨_, .int, rfl, rfl, rfl⟩)) ?_
  intro pp ee ss mm aa bb me cd Q C K hret
  show ZZ pp l ee (rmk 2 50) ss mm aa bb me cd D n0 127 2 0 0 Q _ 0 [some (.ref (n0 + 113)), some (.int 0)] []
  refine z_aload_n C rfl dX5_cut_0 ?_
  refine z_iload_n C rfl dX5_cut_1 ?_
  refine z_if_lt (tgt := 10) C dX5_cut_2 (by decide) (fun h_2 => ?_) (fun h_2 => ?_)
  · exact absurd h_2 (by decide +kernel)
  · skip
    refine z_iload_n C rfl dX5_cut_5 ?_
    refine z_iconst (v := 2) C (by decide +kernel) dX5_cut_6 ?_
    refine z_icmp_le (tgt := 14) C dX5_cut_7 (by decide) (fun h_7 => ?_) (fun h_7 => ?_)
    · skip
      refine z_iconst (v := 0) C (by decide +kernel) dX5_cut_14 ?_
      refine pf_X5_51 (x := 0) C dX5_cut_15 ?_
      rw [← hy]
      refine z_aload_n C rfl dX5_cut_18 ?_
      refine gf_X5_51 (v := 0) C (by rw [hy]; exact up_self) dX5_cut_19 ?_
      refine z_if_le (tgt := 27) C dX5_cut_22 (by decide) (fun h_22 => ?_) (fun h_22 => ?_)
      · skip
        refine z_iload_n C rfl dX5_cut_27 ?_
        refine z_iconst (v := 2) C (by decide +kernel) dX5_cut_28 ?_
        refine z_icmp_ne (tgt := 48) C dX5_cut_29 (by decide) (fun h_29 => ?_) (fun h_29 => ?_)
        · skip
          refine z_aload_n C rfl dX5_cut_48 ?_
          refine z_iconst (v := 1) C (by decide +kernel) dX5_cut_49 ?_
          refine z_iconst (v := 0) C (by decide +kernel) dX5_cut_50 ?_
          refine z_callV (As := [.int 1, .int 0]) (r := none) (σ1 := (κ, mCp y 1 0, o)) (st := []) (st1 := []) C K ok_X5_160 (c_X5_copy l D n0 κ y o 1 0 (by omega) (by omega) hB) enc_M (by decide) rfl rfl ⟨by decide, by decide⟩ ⟨Nat.zero_le _, Nat.zero_le _⟩ (by simp [Value.category]) dX5_cut_51 rfl rfl ?_
          refine z_aload_n C rfl dX5_cut_54 ?_
          refine z_dup C rfl dX5_cut_55 ?_
          refine gf_X5_116 (v := mCp y 1 0 0 21) C rfl dX5_cut_56 ?_
          refine z_aload_n C rfl dX5_cut_59 ?_
          refine gf_X5_107 (v := mCp y 1 0 0 23) C rfl dX5_cut_60 ?_
          refine z_iadd (v := (mCp y 1 0 0 21) + (mCp y 1 0 0 23)) C rfl dX5_cut_63 ?_
          refine pf_X5_116 (x := (mCp y 1 0 0 21) + (mCp y 1 0 0 23)) C dX5_cut_64 ?_
          refine z_aload_n C rfl dX5_cut_67 ?_
          refine z_iconst (v := 0) C (by decide +kernel) dX5_cut_68 ?_
          refine pf_X5_107 (x := 0) C dX5_cut_69 ?_
          refine z_aload_n C rfl dX5_cut_72 ?_
          refine z_iconst (v := 0) C (by decide +kernel) dX5_cut_73 ?_
          refine pf_X5_110 (x := 0) C dX5_cut_74 ?_
          refine z_aload_n C rfl dX5_cut_77 ?_
          refine z_iconst (v := 0) C (by decide +kernel) dX5_cut_78 ?_
          refine pf_X5_80 (x := 0) C dX5_cut_79 ?_
          refine z_aload_n C rfl dX5_cut_82 ?_
          refine z_iconst (v := 0) C (by decide +kernel) dX5_cut_83 ?_
          refine z_callV (As := [.int 0]) (r := (some (.int (nI (mVol (up (up (up (up (mCp y 1 0) 0 21 ((mCp y 1 0 0 21) + (mCp y 1 0 0 23))) 0 23 0) 0 16 0) 0 12 0) 0))))) (σ1 := (κ, up (up (up (up (mCp y 1 0) 0 21 ((mCp y 1 0 0 21) + (mCp y 1 0 0 23))) 0 23 0) 0 16 0) 0 12 0, o)) (st := []) (st1 := [.int (nI (mVol (up (up (up (up (mCp y 1 0) 0 21 ((mCp y 1 0 0 21) + (mCp y 1 0 0 23))) 0 23 0) 0 16 0) 0 12 0) 0))]) C K ok_X5_147 (c_X5_volumes l D n0 κ (up (up (up (up (mCp y 1 0) 0 21 ((mCp y 1 0 0 21) + (mCp y 1 0 0 23))) 0 23 0) 0 16 0) 0 12 0) o 0 (by omega)) enc_M (by decide) rfl rfl ⟨by decide, by decide⟩ ⟨Nat.zero_le _, Nat.zero_le _⟩ (by simp [Value.category]) dX5_cut_84 rfl rfl ?_
          exact z_endI (hret _ _ dX5_cut_87) rfl rfl
        · exact absurd h_29 (by decide +kernel)
      · exact absurd h_22 (by decide +kernel)
    · exact absurd h_7 (by decide +kernel)
set_option maxHeartbeats 4000000 in
set_option maxRecDepth 100000 in
theorem c_X5_cut_b (l : Launch) (D : DD) (n0 : Nat) (κ μ : KH) (o : Int64) (y : KH) (hy : y = up μ 0 0 0) (hB : mB y) : HM l D n0 yX5_cut cX5_cut 2 (some .int) 2 50 [.ref (n0 + 113), .int 1] (κ, μ, o) (some (.int (nI (mVol (mCut (y)) 0)))) (κ, mCut (y), o) := by
  refine HM.of (by decide) (by simp [Value.category]) (by simp) (Or.inr (Or.inl ⟨_, .int, rfl, rfl, rfl⟩)) ?_
  intro pp ee ss mm aa bb me cd Q C K hret
  show ZZ pp l ee (rmk 2 50) ss mm aa bb me cd D n0 127 2 0 0 Q _ 0 [some (.ref (n0 + 113)), some (.int 1)] []
  refine z_aload_n C rfl dX5_cut_0 ?_
  refine z_iload_n C rfl dX5_cut_1 ?_
  refine z_if_lt (tgt := 10) C dX5_cut_2 (by decide) (fun h_2 => ?_) (fun h_2 => ?_)
  · exact absurd h_2 (by decide +kernel)
  · skip
    refine z_iload_n C rfl dX5_cut_5 ?_
    refine z_iconst (v := 2) C (by decide +kernel) dX5_cut_6 ?_
    refine z_icmp_le (tgt := 14) C dX5_cut_7 (by decide) (fun h_7 => ?_) (fun h_7 => ?_)
    · skip
      refine z_iconst (v := 0) C (by decide +kernel) dX5_cut_14 ?_
      refine pf_X5_51 (x := 0) C dX5_cut_15 ?_
      rw [← hy]
      refine z_aload_n C rfl dX5_cut_18 ?_
      refine gf_X5_51 (v := 0) C (by rw [hy]; exact up_self) dX5_cut_19 ?_
      refine z_if_le (tgt := 27) C dX5_cut_22 (by decide) (fun h_22 => ?_) (fun h_22 => ?_)
      · skip
        refine z_iload_n C rfl dX5_cut_27 ?_
        refine z_iconst (v := 2) C (by decide +kernel) dX5_cut_28 ?_
        refine z_icmp_ne (tgt := 48) C dX5_cut_29 (by decide) (fun h_29 => ?_) (fun h_29 => ?_)
        · skip
          refine z_aload_n C rfl dX5_cut_48 ?_
          refine z_iconst (v := 1) C (by decide +kernel) dX5_cut_49 ?_
          refine z_iconst (v := 0) C (by decide +kernel) dX5_cut_50 ?_
          refine z_callV (As := [.int 1, .int 0]) (r := none) (σ1 := (κ, mCp y 1 0, o)) (st := []) (st1 := []) C K ok_X5_160 (c_X5_copy l D n0 κ y o 1 0 (by omega) (by omega) hB) enc_M (by decide) rfl rfl ⟨by decide, by decide⟩ ⟨Nat.zero_le _, Nat.zero_le _⟩ (by simp [Value.category]) dX5_cut_51 rfl rfl ?_
          refine z_aload_n C rfl dX5_cut_54 ?_
          refine z_dup C rfl dX5_cut_55 ?_
          refine gf_X5_116 (v := mCp y 1 0 0 21) C rfl dX5_cut_56 ?_
          refine z_aload_n C rfl dX5_cut_59 ?_
          refine gf_X5_107 (v := mCp y 1 0 0 23) C rfl dX5_cut_60 ?_
          refine z_iadd (v := (mCp y 1 0 0 21) + (mCp y 1 0 0 23)) C rfl dX5_cut_63 ?_
          refine pf_X5_116 (x := (mCp y 1 0 0 21) + (mCp y 1 0 0 23)) C dX5_cut_64 ?_
          refine z_aload_n C rfl dX5_cut_67 ?_
          refine z_iconst (v := 0) C (by decide +kernel) dX5_cut_68 ?_
          refine pf_X5_107 (x := 0) C dX5_cut_69 ?_
          refine z_aload_n C rfl dX5_cut_72 ?_
          refine z_iconst (v := 0) C (by decide +kernel) dX5_cut_73 ?_
          refine pf_X5_110 (x := 0) C dX5_cut_74 ?_
          refine z_aload_n C rfl dX5_cut_77 ?_
          refine z_iconst (v := 0) C (by decide +kernel) dX5_cut_78 ?_
          refine pf_X5_80 (x := 0) C dX5_cut_79 ?_
          refine z_aload_n C rfl dX5_cut_82 ?_
          refine z_iconst (v := 0) C (by decide +kernel) dX5_cut_83 ?_
          refine z_callV (As := [.int 0]) (r := (some (.int (nI (mVol (up (up (up (up (mCp y 1 0) 0 21 ((mCp y 1 0 0 21) + (mCp y 1 0 0 23))) 0 23 0) 0 16 0) 0 12 0) 0))))) (σ1 := (κ, up (up (up (up (mCp y 1 0) 0 21 ((mCp y 1 0 0 21) + (mCp y 1 0 0 23))) 0 23 0) 0 16 0) 0 12 0, o)) (st := []) (st1 := [.int (nI (mVol (up (up (up (up (mCp y 1 0) 0 21 ((mCp y 1 0 0 21) + (mCp y 1 0 0 23))) 0 23 0) 0 16 0) 0 12 0) 0))]) C K ok_X5_147 (c_X5_volumes l D n0 κ (up (up (up (up (mCp y 1 0) 0 21 ((mCp y 1 0 0 21) + (mCp y 1 0 0 23))) 0 23 0) 0 16 0) 0 12 0) o 0 (by omega)) enc_M (by decide) rfl rfl ⟨by decide, by decide⟩ ⟨Nat.zero_le _, Nat.zero_le _⟩ (by simp [Value.category]) dX5_cut_84 rfl rfl ?_
          exact z_endI (hret _ _ dX5_cut_87) rfl rfl
        · exact absurd h_29 (by decide +kernel)
      · exact absurd h_22 (by decide +kernel)
    · exact absurd h_7 (by decide +kernel)
set_option maxHeartbeats 4000000 in
set_option maxRecDepth 100000 in
theorem c_X5_cut_c (l : Launch) (D : DD) (n0 : Nat) (κ μ : KH) (o : Int64) (y : KH) (hy : y = up μ 0 0 0) (hB : mB y) : HM l D n0 yX5_cut cX5_cut 2 (some .int) 2 50 [.ref (n0 + 113), .int 2] (κ, μ, o) (some (.int (nI (mVol (mCut (up (mCp y 0 1) 0 22 (mCp y 0 1 0 22 + 1))) 0)))) (κ, mCut (up (mCp y 0 1) 0 22 (mCp y 0 1 0 22 + 1)), o) := by
  refine HM.of (by decide) (by simp [Value.category]) (by simp) (Or.inr (Or.inl ⟨_, .int, rfl, rfl, rfl⟩)) ?_
  intro pp ee ss mm aa bb me cd Q C K hret
  show ZZ pp l ee (rmk 2 50) ss mm aa bb me cd D n0 127 2 0 0 Q _ 0 [some (.ref (n0 + 113)), some (.int 2)] []
  refine z_aload_n C rfl dX5_cut_0 ?_
  refine z_iload_n C rfl dX5_cut_1 ?_
  refine z_if_lt (tgt := 10) C dX5_cut_2 (by decide) (fun h_2 => ?_) (fun h_2 => ?_)
  · exact absurd h_2 (by decide +kernel)
  · skip
    refine z_iload_n C rfl dX5_cut_5 ?_
    refine z_iconst (v := 2) C (by decide +kernel) dX5_cut_6 ?_
    refine z_icmp_le (tgt := 14) C dX5_cut_7 (by decide) (fun h_7 => ?_) (fun h_7 => ?_)
    · skip
      refine z_iconst (v := 0) C (by decide +kernel) dX5_cut_14 ?_
      refine pf_X5_51 (x := 0) C dX5_cut_15 ?_
      rw [← hy]
      refine z_aload_n C rfl dX5_cut_18 ?_
      refine gf_X5_51 (v := 0) C (by rw [hy]; exact up_self) dX5_cut_19 ?_
      refine z_if_le (tgt := 27) C dX5_cut_22 (by decide) (fun h_22 => ?_) (fun h_22 => ?_)
      · skip
        refine z_iload_n C rfl dX5_cut_27 ?_
        refine z_iconst (v := 2) C (by decide +kernel) dX5_cut_28 ?_
        refine z_icmp_ne (tgt := 48) C dX5_cut_29 (by decide) (fun h_29 => ?_) (fun h_29 => ?_)
        · exact absurd h_29 (by decide +kernel)
        · skip
          refine z_aload_n C rfl dX5_cut_32 ?_
          refine z_iconst (v := 0) C (by decide +kernel) dX5_cut_33 ?_
          refine z_iconst (v := 1) C (by decide +kernel) dX5_cut_34 ?_
          refine z_callV (As := [.int 0, .int 1]) (r := none) (σ1 := (κ, mCp y 0 1, o)) (st := []) (st1 := []) C K ok_X5_160 (c_X5_copy l D n0 κ y o 0 1 (by omega) (by omega) hB) enc_M (by decide) rfl rfl ⟨by decide, by decide⟩ ⟨Nat.zero_le _, Nat.zero_le _⟩ (by simp [Value.category]) dX5_cut_35 rfl rfl ?_
          refine z_aload_n C rfl dX5_cut_38 ?_
          refine z_dup C rfl dX5_cut_39 ?_
          refine gf_X5_163 (v := mCp y 0 1 0 22) C rfl dX5_cut_40 ?_
          refine z_iconst (v := 1) C (by decide +kernel) dX5_cut_43 ?_
          refine z_iadd (v := (mCp y 0 1 0 22) + 1) C rfl dX5_cut_44 ?_
          refine pf_X5_163 (x := (mCp y 0 1 0 22) + 1) C dX5_cut_45 ?_
          refine z_aload_n C rfl dX5_cut_48 ?_
          refine z_iconst (v := 1) C (by decide +kernel) dX5_cut_49 ?_
          refine z_iconst (v := 0) C (by decide +kernel) dX5_cut_50 ?_
          refine z_callV (As := [.int 1, .int 0]) (r := none) (σ1 := (κ, mCp (up (mCp y 0 1) 0 22 ((mCp y 0 1 0 22) + 1)) 1 0, o)) (st := []) (st1 := []) C K ok_X5_160 (c_X5_copy l D n0 κ (up (mCp y 0 1) 0 22 ((mCp y 0 1 0 22) + 1)) o 1 0 (by omega) (by omega) (mB_up0 (mB_cp hB 0 1))) enc_M (by decide) rfl rfl ⟨by decide, by decide⟩ ⟨Nat.zero_le _, Nat.zero_le _⟩ (by simp [Value.category]) dX5_cut_51 rfl rfl ?_
          refine z_aload_n C rfl dX5_cut_54 ?_
          refine z_dup C rfl dX5_cut_55 ?_
          refine gf_X5_116 (v := mCp (up (mCp y 0 1) 0 22 ((mCp y 0 1 0 22) + 1)) 1 0 0 21) C rfl dX5_cut_56 ?_
          refine z_aload_n C rfl dX5_cut_59 ?_
          refine gf_X5_107 (v := mCp (up (mCp y 0 1) 0 22 ((mCp y 0 1 0 22) + 1)) 1 0 0 23) C rfl dX5_cut_60 ?_
          refine z_iadd (v := (mCp (up (mCp y 0 1) 0 22 ((mCp y 0 1 0 22) + 1)) 1 0 0 21) + (mCp (up (mCp y 0 1) 0 22 ((mCp y 0 1 0 22) + 1)) 1 0 0 23)) C rfl dX5_cut_63 ?_
          refine pf_X5_116 (x := (mCp (up (mCp y 0 1) 0 22 ((mCp y 0 1 0 22) + 1)) 1 0 0 21) + (mCp (up (mCp y 0 1) 0 22 ((mCp y 0 1 0 22) + 1)) 1 0 0 23)) C dX5_cut_64 ?_
          refine z_aload_n C rfl dX5_cut_67 ?_
          refine z_iconst (v := 0) C (by decide +kernel) dX5_cut_68 ?_
          refine pf_X5_107 (x := 0) C dX5_cut_69 ?_
          refine z_aload_n C rfl dX5_cut_72 ?_
          refine z_iconst (v := 0) C (by decide +kernel) dX5_cut_73 ?_
          refine pf_X5_110 (x := 0) C dX5_cut_74 ?_
          refine z_aload_n C rfl dX5_cut_77 ?_
          refine z_iconst (v := 0) C (by decide +kernel) dX5_cut_78 ?_
          refine pf_X5_80 (x := 0) C dX5_cut_79 ?_
          refine z_aload_n C rfl dX5_cut_82 ?_
          refine z_iconst (v := 0) C (by decide +kernel) dX5_cut_83 ?_
          refine z_callV (As := [.int 0]) (r := (some (.int (nI (mVol (up (up (up (up (mCp (up (mCp y 0 1) 0 22 ((mCp y 0 1 0 22) + 1)) 1 0) 0 21 ((mCp (up (mCp y 0 1) 0 22 ((mCp y 0 1 0 22) + 1)) 1 0 0 21) + (mCp (up (mCp y 0 1) 0 22 ((mCp y 0 1 0 22) + 1)) 1 0 0 23))) 0 23 0) 0 16 0) 0 12 0) 0))))) (σ1 := (κ, up (up (up (up (mCp (up (mCp y 0 1) 0 22 ((mCp y 0 1 0 22) + 1)) 1 0) 0 21 ((mCp (up (mCp y 0 1) 0 22 ((mCp y 0 1 0 22) + 1)) 1 0 0 21) + (mCp (up (mCp y 0 1) 0 22 ((mCp y 0 1 0 22) + 1)) 1 0 0 23))) 0 23 0) 0 16 0) 0 12 0, o)) (st := []) (st1 := [.int (nI (mVol (up (up (up (up (mCp (up (mCp y 0 1) 0 22 ((mCp y 0 1 0 22) + 1)) 1 0) 0 21 ((mCp (up (mCp y 0 1) 0 22 ((mCp y 0 1 0 22) + 1)) 1 0 0 21) + (mCp (up (mCp y 0 1) 0 22 ((mCp y 0 1 0 22) + 1)) 1 0 0 23))) 0 23 0) 0 16 0) 0 12 0) 0))]) C K ok_X5_147 (c_X5_volumes l D n0 κ (up (up (up (up (mCp (up (mCp y 0 1) 0 22 ((mCp y 0 1 0 22) + 1)) 1 0) 0 21 ((mCp (up (mCp y 0 1) 0 22 ((mCp y 0 1 0 22) + 1)) 1 0 0 21) + (mCp (up (mCp y 0 1) 0 22 ((mCp y 0 1 0 22) + 1)) 1 0 0 23))) 0 23 0) 0 16 0) 0 12 0) o 0 (by omega)) enc_M (by decide) rfl rfl ⟨by decide, by decide⟩ ⟨Nat.zero_le _, Nat.zero_le _⟩ (by simp [Value.category]) dX5_cut_84 rfl rfl ?_
          exact z_endI (hret _ _ dX5_cut_87) rfl rfl
      · exact absurd h_22 (by decide +kernel)
    · exact absurd h_7 (by decide +kernel)
set_option maxHeartbeats 4000000 in
set_option maxRecDepth 100000 in
theorem c_X5_hold_1 (l : Launch) (D : DD) (n0 : Nat) (κ μ : KH) (o : Int64) (h : μ 0 8 ≠ 0) : HM l D n0 yX5_hold cX5_hold 1 (some .int) 0 0 [.ref (n0 + 113)] (κ, μ, o) (some (.int 0)) (κ, up μ 0 0 1, o) := by
  refine HM.of (by decide) (by simp [Value.category]) (by simp) (Or.inr (Or.inl ⟨_, .int, rfl, rfl, rfl⟩)) ?_
  intro pp ee ss mm aa bb me cd Q C K hret
  show ZZ pp l ee (rmk 0 0) ss mm aa bb me cd D n0 127 1 0 0 Q _ 0 [some (.ref (n0 + 113))] []
  refine z_aload_n C rfl dX5_hold_0 ?_
  refine z_aload_n C rfl dX5_hold_1 ?_
  refine gf_X5_166 (v := μ 0 8) C rfl dX5_hold_2 ?_
  refine z_if_eq (tgt := 12) C dX5_hold_5 (by decide) (fun h_5 => ?_) (fun h_5 => ?_)
  · exact absurd h_5 h
  · skip
    refine z_iconst (v := 1) C (by decide +kernel) dX5_hold_8 ?_
    refine z_goto (tgt := 13) C dX5_hold_9 (by decide) ?_
    refine pf_X5_51 (x := 1) C dX5_hold_13 ?_
    refine z_aload_n C rfl dX5_hold_16 ?_
    refine gf_X5_51 (v := 1) C rfl dX5_hold_17 ?_
    refine z_if_le (tgt := 25) C dX5_hold_20 (by decide) (fun h_20 => ?_) (fun h_20 => ?_)
    · exact absurd h_20 (by decide +kernel)
    · skip
      refine z_iconst (v := 0) C (by decide +kernel) dX5_hold_23 ?_
      exact z_endI (hret _ _ dX5_hold_24) rfl rfl
set_option maxHeartbeats 4000000 in
set_option maxRecDepth 100000 in
theorem c_X5_hold (l : Launch) (D : DD) (n0 : Nat) (κ μ : KH) (o : Int64) (y : KH) (hy : y = up μ 0 0 0) (h : μ 0 8 = 0) (hB : mB y) : HM l D n0 yX5_hold cX5_hold 1 (some .int) 2 50 [.ref (n0 + 113)] (κ, μ, o) (some (.int (nI (mVol (mCp (up y 0 8 1) 1 2) 2)))) (κ, mCp (up y 0 8 1) 1 2, o) := by
  refine HM.of (by decide) (by simp [Value.category]) (by simp) (Or.inr (Or.inl ⟨_, .int, rfl, rfl, rfl⟩)) ?_
  intro pp ee ss mm aa bb me cd Q C K hret
  show ZZ pp l ee (rmk 2 50) ss mm aa bb me cd D n0 127 1 0 0 Q _ 0 [some (.ref (n0 + 113))] []
  refine z_aload_n C rfl dX5_hold_0 ?_
  refine z_aload_n C rfl dX5_hold_1 ?_
  refine gf_X5_166 (v := μ 0 8) C rfl dX5_hold_2 ?_
  refine z_if_eq (tgt := 12) C dX5_hold_5 (by decide) (fun h_5 => ?_) (fun h_5 => ?_)
  · skip
    refine z_iconst (v := 0) C (by decide +kernel) dX5_hold_12 ?_
    refine pf_X5_51 (x := 0) C dX5_hold_13 ?_
    rw [← hy]
    refine z_aload_n C rfl dX5_hold_16 ?_
    refine gf_X5_51 (v := 0) C (by rw [hy]; exact up_self) dX5_hold_17 ?_
    refine z_if_le (tgt := 25) C dX5_hold_20 (by decide) (fun h_20 => ?_) (fun h_20 => ?_)
    · skip
      refine z_aload_n C rfl dX5_hold_25 ?_
      refine z_iconst (v := 1) C (by decide +kernel) dX5_hold_26 ?_
      refine pf_X5_166 (x := 1) C (Or.inr rfl) dX5_hold_27 ?_
      refine z_aload_n C rfl dX5_hold_30 ?_
      refine z_iconst (v := 1) C (by decide +kernel) dX5_hold_31 ?_
      refine z_iconst (v := 2) C (by decide +kernel) dX5_hold_32 ?_
      refine z_callV (As := [.int 1, .int 2]) (r := none) (σ1 := (κ, mCp (up y 0 8 1) 1 2, o)) (st := []) (st1 := []) C K ok_X5_160 (c_X5_copy l D n0 κ (up y 0 8 1) o 1 2 (by omega) (by omega) (mB_up0 hB)) enc_M (by decide) rfl rfl ⟨by decide, by decide⟩ ⟨Nat.zero_le _, Nat.zero_le _⟩ (by simp [Value.category]) dX5_hold_33 rfl rfl ?_
      refine z_aload_n C rfl dX5_hold_36 ?_
      refine z_iconst (v := 2) C (by decide +kernel) dX5_hold_37 ?_
      refine z_callV (As := [.int 2]) (r := (some (.int (nI (mVol (mCp (up y 0 8 1) 1 2) 2))))) (σ1 := (κ, mCp (up y 0 8 1) 1 2, o)) (st := []) (st1 := [.int (nI (mVol (mCp (up y 0 8 1) 1 2) 2))]) C K ok_X5_147 (c_X5_volumes l D n0 κ (mCp (up y 0 8 1) 1 2) o 2 (by omega)) enc_M (by decide) rfl rfl ⟨by decide, by decide⟩ ⟨Nat.zero_le _, Nat.zero_le _⟩ (by simp [Value.category]) dX5_hold_38 rfl rfl ?_
      exact z_endI (hret _ _ dX5_hold_41) rfl rfl
    · exact absurd h_20 (by decide +kernel)
  · exact absurd h h_5
set_option maxHeartbeats 4000000 in
set_option maxRecDepth 100000 in
theorem c_X5_release (l : Launch) (D : DD) (n0 : Nat) (κ μ : KH) (o : Int64) (y : KH) (hy : y = up μ 0 0 0) (h8 : is01 (y 0 8)) (hD1 : mD (up (iterK (mClr 2) 16 (up y 0 8 0)) 7 2 0) (nQ (up (iterK (mClr 2) 16 (up y 0 8 0)) 7 2 0))) : HM l D n0 yX5_release cX5_release 2 (some .boolean) 7 165 [.ref (n0 + 113)] (κ, μ, o) (some (.int (y 0 8))) (κ, mDrain (up (iterK (mClr 2) 16 (up y 0 8 0)) 7 2 0), o) := by
  refine HM.of (by decide) (by simp [Value.category]) (by simp) (Or.inr (Or.inl ⟨_, .boolean, rfl, rfl, (h8.elim (fun q => by rw [q]; rfl) (fun q => by rw [q]; rfl))⟩)) ?_
  intro pp ee ss mm aa bb me cd Q C K hret
  show ZZ pp l ee (rmk 7 165) ss mm aa bb me cd D n0 127 2 0 0 Q _ 0 [some (.ref (n0 + 113)), none] []
  refine z_aload_n C rfl dX5_release_0 ?_
  refine z_iconst (v := 0) C (by decide +kernel) dX5_release_1 ?_
  refine pf_X5_51 (x := 0) C dX5_release_2 ?_
  rw [← hy]
  refine z_aload_n C rfl dX5_release_5 ?_
  refine gf_X5_166 (v := y 0 8) C rfl dX5_release_6 ?_
  refine z_istore_n (ls' := [some (.ref (n0 + 113)), some (.int (y 0 8))]) C (by decide) rfl dX5_release_9 ?_
  refine z_aload_n C rfl dX5_release_10 ?_
  refine z_iconst (v := 0) C (by decide +kernel) dX5_release_11 ?_
  refine pf_X5_166 (x := 0) C (Or.inl rfl) dX5_release_12 ?_
  refine z_aload_n C rfl dX5_release_15 ?_
  refine z_iconst (v := 2) C (by decide +kernel) dX5_release_16 ?_
  refine z_callV (As := [.int 2]) (r := none) (σ1 := (κ, up (iterK (mClr 2) 16 (up y 0 8 0)) 7 2 0, o)) (st := []) (st1 := []) C K ok_X5_170 (c_X5_clearState l D n0 κ (up y 0 8 0) o 2 (by omega)) enc_M (by decide) rfl rfl ⟨by decide, by decide⟩ ⟨Nat.zero_le _, Nat.zero_le _⟩ (by simp [Value.category]) dX5_release_17 rfl rfl ?_
  refine z_aload_n C rfl dX5_release_20 ?_
  refine z_callV (As := []) (r := none) (σ1 := (κ, mDrain (up (iterK (mClr 2) 16 (up y 0 8 0)) 7 2 0), o)) (st := []) (st1 := []) C K ok_X5_150 (c_X5_drain l D n0 κ (up (iterK (mClr 2) 16 (up y 0 8 0)) 7 2 0) o hD1) enc_M (by decide) rfl rfl ⟨by decide, by decide⟩ ⟨Nat.zero_le _, Nat.zero_le _⟩ (by simp [Value.category]) dX5_release_21 rfl rfl ?_
  refine z_iload_n C rfl dX5_release_24 ?_
  exact z_endI (hret _ _ dX5_release_25) rfl rfl
set_option maxHeartbeats 4000000 in
set_option maxRecDepth 100000 in
theorem c_X5_patience_1 (l : Launch) (D : DD) (n0 : Nat) (κ μ : KH) (o : Int64) (s : Int32) (hb : s < 0 ∨ 1000 < s) : HM l D n0 yX5_patience cX5_patience 3 (some .int) 0 0 [.ref (n0 + 113), .int s] (κ, μ, o) (some (.int 0)) (κ, up μ 0 0 1, o) := by
  refine HM.of (by decide) (by simp [Value.category]) (by simp) (Or.inr (Or.inl ⟨_, .int, rfl, rfl, rfl⟩)) ?_
  intro pp ee ss mm aa bb me cd Q C K hret
  show ZZ pp l ee (rmk 0 0) ss mm aa bb me cd D n0 127 3 0 0 Q _ 0 [some (.ref (n0 + 113)), some (.int s), none] []
  refine z_aload_n C rfl dX5_patience_0 ?_
  refine z_iload_n C rfl dX5_patience_1 ?_
  refine z_if_lt (tgt := 12) C dX5_patience_2 (by decide) (fun h_2 => ?_) (fun h_2 => ?_)
  · skip
    refine z_iconst (v := 1) C (by decide +kernel) dX5_patience_12 ?_
    refine z_goto (tgt := 17) C dX5_patience_13 (by decide) ?_
    refine pf_X5_51 (x := 1) C dX5_patience_17 ?_
    refine z_aload_n C rfl dX5_patience_20 ?_
    refine gf_X5_51 (v := 1) C rfl dX5_patience_21 ?_
    refine z_if_le (tgt := 29) C dX5_patience_24 (by decide) (fun h_24 => ?_) (fun h_24 => ?_)
    · exact absurd h_24 (by decide +kernel)
    · skip
      refine z_iconst (v := 0) C (by decide +kernel) dX5_patience_27 ?_
      exact z_endI (hret _ _ dX5_patience_28) rfl rfl
  · skip
    refine z_iload_n C rfl dX5_patience_5 ?_
    refine z_sipush (v := 1000) C (by decide +kernel) dX5_patience_6 ?_
    refine z_icmp_le (tgt := 16) C dX5_patience_9 (by decide) (fun h_9 => ?_) (fun h_9 => ?_)
    · exact absurd hb (fun q => q.elim h_2 (Int32.not_lt.mpr h_9))
    · skip
      refine z_iconst (v := 1) C (by decide +kernel) dX5_patience_12 ?_
      refine z_goto (tgt := 17) C dX5_patience_13 (by decide) ?_
      refine pf_X5_51 (x := 1) C dX5_patience_17 ?_
      refine z_aload_n C rfl dX5_patience_20 ?_
      refine gf_X5_51 (v := 1) C rfl dX5_patience_21 ?_
      refine z_if_le (tgt := 29) C dX5_patience_24 (by decide) (fun h_24 => ?_) (fun h_24 => ?_)
      · exact absurd h_24 (by decide +kernel)
      · skip
        refine z_iconst (v := 0) C (by decide +kernel) dX5_patience_27 ?_
        exact z_endI (hret _ _ dX5_patience_28) rfl rfl
set_option maxHeartbeats 4000000 in
set_option maxRecDepth 100000 in
theorem c_X5_patience (l : Launch) (D : DD) (n0 : Nat) (κ μ : KH) (o : Int64) (s : Int32) (h1 : ¬ s < 0) (h2 : s ≤ 1000) (y : KH) (hy : y = up μ 0 0 0) : HM l D n0 yX5_patience cX5_patience 3 (some .int) 0 0 [.ref (n0 + 113), .int s] (κ, μ, o) (some (.int (y 0 17))) (κ, up y 0 17 s, o) := by
  refine HM.of (by decide) (by simp [Value.category]) (by simp) (Or.inr (Or.inl ⟨_, .int, rfl, rfl, rfl⟩)) ?_
  intro pp ee ss mm aa bb me cd Q C K hret
  show ZZ pp l ee (rmk 0 0) ss mm aa bb me cd D n0 127 3 0 0 Q _ 0 [some (.ref (n0 + 113)), some (.int s), none] []
  refine z_aload_n C rfl dX5_patience_0 ?_
  refine z_iload_n C rfl dX5_patience_1 ?_
  refine z_if_lt (tgt := 12) C dX5_patience_2 (by decide) (fun h_2 => ?_) (fun h_2 => ?_)
  · exact absurd h_2 h1
  · skip
    refine z_iload_n C rfl dX5_patience_5 ?_
    refine z_sipush (v := 1000) C (by decide +kernel) dX5_patience_6 ?_
    refine z_icmp_le (tgt := 16) C dX5_patience_9 (by decide) (fun h_9 => ?_) (fun h_9 => ?_)
    · skip
      refine z_iconst (v := 0) C (by decide +kernel) dX5_patience_16 ?_
      refine pf_X5_51 (x := 0) C dX5_patience_17 ?_
      rw [← hy]
      refine z_aload_n C rfl dX5_patience_20 ?_
      refine gf_X5_51 (v := 0) C (by rw [hy]; exact up_self) dX5_patience_21 ?_
      refine z_if_le (tgt := 29) C dX5_patience_24 (by decide) (fun h_24 => ?_) (fun h_24 => ?_)
      · skip
        refine z_aload_n C rfl dX5_patience_29 ?_
        refine gf_X5_135 (v := y 0 17) C rfl dX5_patience_30 ?_
        refine z_istore_n (ls' := [some (.ref (n0 + 113)), some (.int s), some (.int (y 0 17))]) C (by decide) rfl dX5_patience_33 ?_
        refine z_aload_n C rfl dX5_patience_34 ?_
        refine z_iload_n C rfl dX5_patience_35 ?_
        refine pf_X5_135 (x := s) C dX5_patience_36 ?_
        refine z_iload_n C rfl dX5_patience_39 ?_
        exact z_endI (hret _ _ dX5_patience_40) rfl rfl
      · exact absurd h_24 (by decide +kernel)
    · exact absurd h2 h_9
set_option maxHeartbeats 4000000 in
set_option maxRecDepth 100000 in
theorem c_X5_alarm_1 (l : Launch) (D : DD) (n0 : Nat) (κ μ : KH) (o : Int64) (s : Int32) (hb : s < 0 ∨ 96 < s) : HM l D n0 yX5_alarm cX5_alarm 3 (some .int) 0 0 [.ref (n0 + 113), .int s] (κ, μ, o) (some (.int 0)) (κ, up μ 0 0 1, o) := by
  refine HM.of (by decide) (by simp [Value.category]) (by simp) (Or.inr (Or.inl ⟨_, .int, rfl, rfl, rfl⟩)) ?_
  intro pp ee ss mm aa bb me cd Q C K hret
  show ZZ pp l ee (rmk 0 0) ss mm aa bb me cd D n0 127 3 0 0 Q _ 0 [some (.ref (n0 + 113)), some (.int s), none] []
  refine z_aload_n C rfl dX5_alarm_0 ?_
  refine z_iload_n C rfl dX5_alarm_1 ?_
  refine z_if_lt (tgt := 11) C dX5_alarm_2 (by decide) (fun h_2 => ?_) (fun h_2 => ?_)
  · skip
    refine z_iconst (v := 1) C (by decide +kernel) dX5_alarm_11 ?_
    refine z_goto (tgt := 16) C dX5_alarm_12 (by decide) ?_
    refine pf_X5_51 (x := 1) C dX5_alarm_16 ?_
    refine z_aload_n C rfl dX5_alarm_19 ?_
    refine gf_X5_51 (v := 1) C rfl dX5_alarm_20 ?_
    refine z_if_le (tgt := 28) C dX5_alarm_23 (by decide) (fun h_23 => ?_) (fun h_23 => ?_)
    · exact absurd h_23 (by decide +kernel)
    · skip
      refine z_iconst (v := 0) C (by decide +kernel) dX5_alarm_26 ?_
      exact z_endI (hret _ _ dX5_alarm_27) rfl rfl
  · skip
    refine z_iload_n C rfl dX5_alarm_5 ?_
    refine z_bipush (v := 96) C (by decide +kernel) dX5_alarm_6 ?_
    refine z_icmp_le (tgt := 15) C dX5_alarm_8 (by decide) (fun h_8 => ?_) (fun h_8 => ?_)
    · exact absurd hb (fun q => q.elim h_2 (Int32.not_lt.mpr h_8))
    · skip
      refine z_iconst (v := 1) C (by decide +kernel) dX5_alarm_11 ?_
      refine z_goto (tgt := 16) C dX5_alarm_12 (by decide) ?_
      refine pf_X5_51 (x := 1) C dX5_alarm_16 ?_
      refine z_aload_n C rfl dX5_alarm_19 ?_
      refine gf_X5_51 (v := 1) C rfl dX5_alarm_20 ?_
      refine z_if_le (tgt := 28) C dX5_alarm_23 (by decide) (fun h_23 => ?_) (fun h_23 => ?_)
      · exact absurd h_23 (by decide +kernel)
      · skip
        refine z_iconst (v := 0) C (by decide +kernel) dX5_alarm_26 ?_
        exact z_endI (hret _ _ dX5_alarm_27) rfl rfl
set_option maxHeartbeats 4000000 in
set_option maxRecDepth 100000 in
theorem c_X5_alarm (l : Launch) (D : DD) (n0 : Nat) (κ μ : KH) (o : Int64) (s : Int32) (h1 : ¬ s < 0) (h2 : s ≤ 96) (y : KH) (hy : y = up μ 0 0 0) : HM l D n0 yX5_alarm cX5_alarm 3 (some .int) 0 0 [.ref (n0 + 113), .int s] (κ, μ, o) (some (.int (y 0 13))) (κ, up y 0 13 s, o) := by
  refine HM.of (by decide) (by simp [Value.category]) (by simp) (Or.inr (Or.inl ⟨_, .int, rfl, rfl, rfl⟩)) ?_
  intro pp ee ss mm aa bb me cd Q C K hret
  show ZZ pp l ee (rmk 0 0) ss mm aa bb me cd D n0 127 3 0 0 Q _ 0 [some (.ref (n0 + 113)), some (.int s), none] []
  refine z_aload_n C rfl dX5_alarm_0 ?_
  refine z_iload_n C rfl dX5_alarm_1 ?_
  refine z_if_lt (tgt := 11) C dX5_alarm_2 (by decide) (fun h_2 => ?_) (fun h_2 => ?_)
  · exact absurd h_2 h1
  · skip
    refine z_iload_n C rfl dX5_alarm_5 ?_
    refine z_bipush (v := 96) C (by decide +kernel) dX5_alarm_6 ?_
    refine z_icmp_le (tgt := 15) C dX5_alarm_8 (by decide) (fun h_8 => ?_) (fun h_8 => ?_)
    · skip
      refine z_iconst (v := 0) C (by decide +kernel) dX5_alarm_15 ?_
      refine pf_X5_51 (x := 0) C dX5_alarm_16 ?_
      rw [← hy]
      refine z_aload_n C rfl dX5_alarm_19 ?_
      refine gf_X5_51 (v := 0) C (by rw [hy]; exact up_self) dX5_alarm_20 ?_
      refine z_if_le (tgt := 28) C dX5_alarm_23 (by decide) (fun h_23 => ?_) (fun h_23 => ?_)
      · skip
        refine z_aload_n C rfl dX5_alarm_28 ?_
        refine gf_X5_96 (v := y 0 13) C rfl dX5_alarm_29 ?_
        refine z_istore_n (ls' := [some (.ref (n0 + 113)), some (.int s), some (.int (y 0 13))]) C (by decide) rfl dX5_alarm_32 ?_
        refine z_aload_n C rfl dX5_alarm_33 ?_
        refine z_iload_n C rfl dX5_alarm_34 ?_
        refine pf_X5_96 (x := s) C dX5_alarm_35 ?_
        refine z_iload_n C rfl dX5_alarm_38 ?_
        exact z_endI (hret _ _ dX5_alarm_39) rfl rfl
      · exact absurd h_23 (by decide +kernel)
    · exact absurd h2 h_8
set_option maxHeartbeats 4000000 in
set_option maxRecDepth 100000 in
theorem c_X5_tick_1 (l : Launch) (D : DD) (n0 : Nat) (κ μ : KH) (o : Int64) (s : Int32) (hb : s < 0 ∨ 10000 < s) : HM l D n0 yX5_tick cX5_tick 3 (some .int) 0 0 [.ref (n0 + 113), .int s] (κ, μ, o) (some (.int 0)) (κ, up μ 0 0 1, o) := by
  refine HM.of (by decide) (by simp [Value.category]) (by simp) (Or.inr (Or.inl ⟨_, .int, rfl, rfl, rfl⟩)) ?_
  intro pp ee ss mm aa bb me cd Q C K hret
  show ZZ pp l ee (rmk 0 0) ss mm aa bb me cd D n0 127 3 0 0 Q _ 0 [some (.ref (n0 + 113)), some (.int s), none] []
  refine z_aload_n C rfl dX5_tick_0 ?_
  refine z_iload_n C rfl dX5_tick_1 ?_
  refine z_if_lt (tgt := 12) C dX5_tick_2 (by decide) (fun h_2 => ?_) (fun h_2 => ?_)
  · skip
    refine z_iconst (v := 1) C (by decide +kernel) dX5_tick_12 ?_
    refine z_goto (tgt := 17) C dX5_tick_13 (by decide) ?_
    refine pf_X5_51 (x := 1) C dX5_tick_17 ?_
    refine z_aload_n C rfl dX5_tick_20 ?_
    refine gf_X5_51 (v := 1) C rfl dX5_tick_21 ?_
    refine z_if_le (tgt := 29) C dX5_tick_24 (by decide) (fun h_24 => ?_) (fun h_24 => ?_)
    · exact absurd h_24 (by decide +kernel)
    · skip
      refine z_iconst (v := 0) C (by decide +kernel) dX5_tick_27 ?_
      exact z_endI (hret _ _ dX5_tick_28) rfl rfl
  · skip
    refine z_iload_n C rfl dX5_tick_5 ?_
    refine z_sipush (v := 10000) C (by decide +kernel) dX5_tick_6 ?_
    refine z_icmp_le (tgt := 16) C dX5_tick_9 (by decide) (fun h_9 => ?_) (fun h_9 => ?_)
    · exact absurd hb (fun q => q.elim h_2 (Int32.not_lt.mpr h_9))
    · skip
      refine z_iconst (v := 1) C (by decide +kernel) dX5_tick_12 ?_
      refine z_goto (tgt := 17) C dX5_tick_13 (by decide) ?_
      refine pf_X5_51 (x := 1) C dX5_tick_17 ?_
      refine z_aload_n C rfl dX5_tick_20 ?_
      refine gf_X5_51 (v := 1) C rfl dX5_tick_21 ?_
      refine z_if_le (tgt := 29) C dX5_tick_24 (by decide) (fun h_24 => ?_) (fun h_24 => ?_)
      · exact absurd h_24 (by decide +kernel)
      · skip
        refine z_iconst (v := 0) C (by decide +kernel) dX5_tick_27 ?_
        exact z_endI (hret _ _ dX5_tick_28) rfl rfl
set_option maxHeartbeats 4000000 in
set_option maxRecDepth 100000 in
theorem c_X5_tick (l : Launch) (D : DD) (n0 : Nat) (κ μ : KH) (o : Int64) (s : Int32) (h1 : ¬ s < 0) (h2 : s ≤ 10000) (y : KH) (hy : y = up μ 0 0 0) : HM l D n0 yX5_tick cX5_tick 3 (some .int) 0 0 [.ref (n0 + 113), .int s] (κ, μ, o) (some (.int ((mTick y s).2))) (κ, (mTick y s).1, o) := by
  refine HM.of (by decide) (by simp [Value.category]) (by simp) (Or.inr (Or.inl ⟨_, .int, rfl, rfl, rfl⟩)) ?_
  intro pp ee ss mm aa bb me cd Q C K hret
  show ZZ pp l ee (rmk 0 0) ss mm aa bb me cd D n0 127 3 0 0 Q _ 0 [some (.ref (n0 + 113)), some (.int s), none] []
  refine z_aload_n C rfl dX5_tick_0 ?_
  refine z_iload_n C rfl dX5_tick_1 ?_
  refine z_if_lt (tgt := 12) C dX5_tick_2 (by decide) (fun h_2 => ?_) (fun h_2 => ?_)
  · exact absurd h_2 h1
  · skip
    refine z_iload_n C rfl dX5_tick_5 ?_
    refine z_sipush (v := 10000) C (by decide +kernel) dX5_tick_6 ?_
    refine z_icmp_le (tgt := 16) C dX5_tick_9 (by decide) (fun h_9 => ?_) (fun h_9 => ?_)
    · skip
      refine z_iconst (v := 0) C (by decide +kernel) dX5_tick_16 ?_
      refine pf_X5_51 (x := 0) C dX5_tick_17 ?_
      rw [← hy]
      refine z_aload_n C rfl dX5_tick_20 ?_
      refine gf_X5_51 (v := 0) C (by rw [hy]; exact up_self) dX5_tick_21 ?_
      refine z_if_le (tgt := 29) C dX5_tick_24 (by decide) (fun h_24 => ?_) (fun h_24 => ?_)
      · skip
        refine z_aload_n C rfl dX5_tick_29 ?_
        refine z_dup C rfl dX5_tick_30 ?_
        refine gf_X5_173 (v := y 0 20) C rfl dX5_tick_31 ?_
        refine z_iload_n C rfl dX5_tick_34 ?_
        refine z_iadd (v := (y 0 20) + s) C rfl dX5_tick_35 ?_
        refine pf_X5_173 (x := (y 0 20) + s) C dX5_tick_36 ?_
        refine z_aload_n C rfl dX5_tick_39 ?_
        refine z_dup C rfl dX5_tick_40 ?_
        refine gf_X5_141 (v := y 0 19) C rfl dX5_tick_41 ?_
        refine z_aload_n C rfl dX5_tick_44 ?_
        refine gf_X5_110 (v := y 0 16) C rfl dX5_tick_45 ?_
        refine z_iconst (v := 1) C (by decide +kernel) dX5_tick_48 ?_
        refine z_icmp_ne (tgt := 56) C dX5_tick_49 (by decide) (fun h_49 => ?_) (fun h_49 => ?_)
        · skip
          refine z_iconst (v := 0) C (by decide +kernel) dX5_tick_56 ?_
          refine z_iadd (v := (y 0 19) + 0) C rfl dX5_tick_57 ?_
          refine pf_X5_141 (x := (y 0 19) + 0) C dX5_tick_58 ?_
          refine z_aload_n C rfl dX5_tick_61 ?_
          refine gf_X5_110 (v := y 0 16) C rfl dX5_tick_62 ?_
          refine z_iconst (v := 1) C (by decide +kernel) dX5_tick_65 ?_
          refine z_icmp_ne (tgt := 80) C dX5_tick_66 (by decide) (fun h_66 => ?_) (fun h_66 => ?_)
          · skip
            refine z_iconst (v := 0) C (by decide +kernel) dX5_tick_80 ?_
            exact z_endI (hret _ _ dX5_tick_81) (ri (mTick_1 h_49)) (rs (mTick_1 h_49))
          · exact absurd h_66 h_49
        · skip
          refine z_iload_n C rfl dX5_tick_52 ?_
          refine z_goto (tgt := 57) C dX5_tick_53 (by decide) ?_
          refine z_iadd (v := (y 0 19) + s) C rfl dX5_tick_57 ?_
          refine pf_X5_141 (x := (y 0 19) + s) C dX5_tick_58 ?_
          refine z_aload_n C rfl dX5_tick_61 ?_
          refine gf_X5_110 (v := y 0 16) C rfl dX5_tick_62 ?_
          refine z_iconst (v := 1) C (by decide +kernel) dX5_tick_65 ?_
          refine z_icmp_ne (tgt := 80) C dX5_tick_66 (by decide) (fun h_66 => ?_) (fun h_66 => ?_)
          · exact absurd h_49 h_66
          · skip
            refine z_aload_n C rfl dX5_tick_69 ?_
            refine gf_X5_141 (v := (y 0 19) + s) C rfl dX5_tick_70 ?_
            refine z_aload_n C rfl dX5_tick_73 ?_
            refine gf_X5_138 (v := y 0 18) C rfl dX5_tick_74 ?_
            refine z_icmp_ge (tgt := 82) C dX5_tick_77 (by decide) (fun h_77 => ?_) (fun h_77 => ?_)
            · skip
              refine z_aload_n C rfl dX5_tick_82 ?_
              refine gf_X5_107 (v := y 0 23) C rfl dX5_tick_83 ?_
              refine z_istore_n (ls' := [some (.ref (n0 + 113)), some (.int s), some (.int (y 0 23))]) C (by decide) rfl dX5_tick_86 ?_
              refine z_aload_n C rfl dX5_tick_87 ?_
              refine z_dup C rfl dX5_tick_88 ?_
              refine gf_X5_116 (v := y 0 21) C rfl dX5_tick_89 ?_
              refine z_iload_n C rfl dX5_tick_92 ?_
              refine z_iadd (v := (y 0 21) + (y 0 23)) C rfl dX5_tick_93 ?_
              refine pf_X5_116 (x := (y 0 21) + (y 0 23)) C dX5_tick_94 ?_
              refine z_aload_n C rfl dX5_tick_97 ?_
              refine z_iconst (v := 0) C (by decide +kernel) dX5_tick_98 ?_
              refine pf_X5_107 (x := 0) C dX5_tick_99 ?_
              refine z_aload_n C rfl dX5_tick_102 ?_
              refine z_iconst (v := 2) C (by decide +kernel) dX5_tick_103 ?_
              refine pf_X5_110 (x := 2) C dX5_tick_104 ?_
              refine z_iload_n C rfl dX5_tick_107 ?_
              exact z_endI (hret _ _ dX5_tick_108) (ri (mTick_3 h_49 h_77)) (rs (mTick_3 h_49 h_77))
            · skip
              refine z_iconst (v := 0) C (by decide +kernel) dX5_tick_80 ?_
              exact z_endI (hret _ _ dX5_tick_81) (ri (mTick_2 h_49 (Int32.not_le.mp h_77))) (rs (mTick_2 h_49 (Int32.not_le.mp h_77)))
      · exact absurd h_24 (by decide +kernel)
    · exact absurd h2 h_9
set_option maxHeartbeats 4000000 in
set_option maxRecDepth 100000 in
theorem c_X5_map_1 (l : Launch) (D : DD) (n0 : Nat) (κ μ : KH) (o : Int64) (s v p : Int32) (hb : s < 0 ∨ 2 < s) : HM l D n0 yX5_map cX5_map 4 (some .int) 0 0 [.ref (n0 + 113), .int s, .int v, .int p] (κ, μ, o) (some (.int 0)) (κ, up μ 0 0 1, o) := by
  refine HM.of (by decide) (by simp [Value.category]) (by simp) (Or.inr (Or.inl ⟨_, .int, rfl, rfl, rfl⟩)) ?_
  intro pp ee ss mm aa bb me cd Q C K hret
  show ZZ pp l ee (rmk 0 0) ss mm aa bb me cd D n0 127 4 0 0 Q _ 0 [some (.ref (n0 + 113)), some (.int s), some (.int v), some (.int p)] []
  refine z_aload_n C rfl dX5_map_0 ?_
  refine z_iload_n C rfl dX5_map_1 ?_
  refine z_if_lt (tgt := 10) C dX5_map_2 (by decide) (fun h_2 => ?_) (fun h_2 => ?_)
  · skip
    refine z_iconst (v := 1) C (by decide +kernel) dX5_map_10 ?_
    refine z_goto (tgt := 36) C dX5_map_11 (by decide) ?_
    refine pf_X5_51 (x := 1) C dX5_map_36 ?_
    refine z_aload_n C rfl dX5_map_39 ?_
    refine gf_X5_51 (v := 1) C rfl dX5_map_40 ?_
    refine z_if_le (tgt := 50) C dX5_map_43 (by decide) (fun h_43 => ?_) (fun h_43 => ?_)
    · exact absurd h_43 (by decide +kernel)
    · skip
      refine z_iconst (v := 0) C (by decide +kernel) dX5_map_46 ?_
      refine z_goto (tgt := 79) C dX5_map_47 (by decide) ?_
      exact z_endI (hret _ _ dX5_map_79) rfl rfl
  · skip
    refine z_iload_n C rfl dX5_map_5 ?_
    refine z_iconst (v := 2) C (by decide +kernel) dX5_map_6 ?_
    refine z_icmp_le (tgt := 14) C dX5_map_7 (by decide) (fun h_7 => ?_) (fun h_7 => ?_)
    · exact absurd hb (fun q => q.elim h_2 (Int32.not_lt.mpr h_7))
    · skip
      refine z_iconst (v := 1) C (by decide +kernel) dX5_map_10 ?_
      refine z_goto (tgt := 36) C dX5_map_11 (by decide) ?_
      refine pf_X5_51 (x := 1) C dX5_map_36 ?_
      refine z_aload_n C rfl dX5_map_39 ?_
      refine gf_X5_51 (v := 1) C rfl dX5_map_40 ?_
      refine z_if_le (tgt := 50) C dX5_map_43 (by decide) (fun h_43 => ?_) (fun h_43 => ?_)
      · exact absurd h_43 (by decide +kernel)
      · skip
        refine z_iconst (v := 0) C (by decide +kernel) dX5_map_46 ?_
        refine z_goto (tgt := 79) C dX5_map_47 (by decide) ?_
        exact z_endI (hret _ _ dX5_map_79) rfl rfl
set_option maxHeartbeats 4000000 in
set_option maxRecDepth 100000 in
theorem c_X5_map_2 (l : Launch) (D : DD) (n0 : Nat) (κ μ : KH) (o : Int64) (s : Nat) (v p : Int32) (hs : s < 3) (hb : vNum v = false ∨ p < 0 ∨ ¬ p < 40) : HM l D n0 yX5_map cX5_map 4 (some .int) 1 20 [.ref (n0 + 113), .int (nI s), .int v, .int p] (κ, μ, o) (some (.int 0)) (κ, up μ 0 0 2, o) := by
  refine HM.of (by decide) (by simp [Value.category]) (by simp) (Or.inr (Or.inl ⟨_, .int, rfl, rfl, rfl⟩)) ?_
  intro pp ee ss mm aa bb me cd Q C K hret
  show ZZ pp l ee (rmk 1 20) ss mm aa bb me cd D n0 127 4 0 0 Q _ 0 [some (.ref (n0 + 113)), some (.int (nI s)), some (.int v), some (.int p)] []
  refine z_aload_n C rfl dX5_map_0 ?_
  refine z_iload_n C rfl dX5_map_1 ?_
  refine z_if_lt (tgt := 10) C dX5_map_2 (by decide) (fun h_2 => ?_) (fun h_2 => ?_)
  · exact absurd h_2 (nI_pos (by omega))
  · skip
    refine z_iload_n C rfl dX5_map_5 ?_
    refine z_iconst (v := 2) C (by decide +kernel) dX5_map_6 ?_
    refine z_icmp_le (tgt := 14) C dX5_map_7 (by decide) (fun h_7 => ?_) (fun h_7 => ?_)
    · have g_7 := cv_le (a := s) (b := 2) (by omega) (by omega) h_7
      refine z_iload_n C rfl dX5_map_14 ?_
      refine z_callS (As := [.int v]) (r := (some (.int (b2i (vNum v))))) (σ1 := (κ, μ, o)) (st := [.ref (n0 + 113)]) (st1 := [.int (b2i (vNum v)), .ref (n0 + 113)]) C K ok_X5_54 (c_X5_isNumber l D n0 κ μ o v) rfl ⟨by decide, by decide⟩ ⟨Nat.zero_le _, Nat.zero_le _⟩ (by simp [Value.category]) dX5_map_15 rfl rfl ?_
      refine z_if_eq (tgt := 31) C dX5_map_18 (by decide) (fun h_18 => ?_) (fun h_18 => ?_)
      · have g_18 := cv_b0 h_18
        refine z_iconst (v := 2) C (by decide +kernel) dX5_map_31 ?_
        refine z_goto (tgt := 36) C dX5_map_32 (by decide) ?_
        refine pf_X5_51 (x := 2) C dX5_map_36 ?_
        refine z_aload_n C rfl dX5_map_39 ?_
        refine gf_X5_51 (v := 2) C rfl dX5_map_40 ?_
        refine z_if_le (tgt := 50) C dX5_map_43 (by decide) (fun h_43 => ?_) (fun h_43 => ?_)
        · exact absurd h_43 (by decide +kernel)
        · skip
          refine z_iconst (v := 0) C (by decide +kernel) dX5_map_46 ?_
          refine z_goto (tgt := 79) C dX5_map_47 (by decide) ?_
          exact z_endI (hret _ _ dX5_map_79) rfl rfl
      · have g_18 := cv_b1 h_18
        refine z_iload_n C rfl dX5_map_21 ?_
        refine z_if_lt (tgt := 31) C dX5_map_22 (by decide) (fun h_22 => ?_) (fun h_22 => ?_)
        · skip
          refine z_iconst (v := 2) C (by decide +kernel) dX5_map_31 ?_
          refine z_goto (tgt := 36) C dX5_map_32 (by decide) ?_
          refine pf_X5_51 (x := 2) C dX5_map_36 ?_
          refine z_aload_n C rfl dX5_map_39 ?_
          refine gf_X5_51 (v := 2) C rfl dX5_map_40 ?_
          refine z_if_le (tgt := 50) C dX5_map_43 (by decide) (fun h_43 => ?_) (fun h_43 => ?_)
          · exact absurd h_43 (by decide +kernel)
          · skip
            refine z_iconst (v := 0) C (by decide +kernel) dX5_map_46 ?_
            refine z_goto (tgt := 79) C dX5_map_47 (by decide) ?_
            exact z_endI (hret _ _ dX5_map_79) rfl rfl
        · skip
          refine z_iload_n C rfl dX5_map_25 ?_
          refine z_bipush (v := 40) C (by decide +kernel) dX5_map_26 ?_
          refine z_icmp_lt (tgt := 35) C dX5_map_28 (by decide) (fun h_28 => ?_) (fun h_28 => ?_)
          · exact absurd hb (fun q => q.elim (fun q => absurd g_18 (by rw [q]; decide)) (fun q => q.elim h_22 (fun q => q h_28)))
          · skip
            refine z_iconst (v := 2) C (by decide +kernel) dX5_map_31 ?_
            refine z_goto (tgt := 36) C dX5_map_32 (by decide) ?_
            refine pf_X5_51 (x := 2) C dX5_map_36 ?_
            refine z_aload_n C rfl dX5_map_39 ?_
            refine gf_X5_51 (v := 2) C rfl dX5_map_40 ?_
            refine z_if_le (tgt := 50) C dX5_map_43 (by decide) (fun h_43 => ?_) (fun h_43 => ?_)
            · exact absurd h_43 (by decide +kernel)
            · skip
              refine z_iconst (v := 0) C (by decide +kernel) dX5_map_46 ?_
              refine z_goto (tgt := 79) C dX5_map_47 (by decide) ?_
              exact z_endI (hret _ _ dX5_map_79) rfl rfl
    · have g_7 := cv_nle (a := s) (b := 2) (by omega) (by omega) h_7
      exact absurd g_7 (by omega)
set_option maxHeartbeats 4000000 in
set_option maxRecDepth 100000 in
theorem c_X5_map (l : Launch) (D : DD) (n0 : Nat) (κ μ : KH) (o : Int64) (s j k : Nat) (hs : s < 3) (hj : j < 16) (hk : k < 40) (y : KH) (hy : y = up μ 0 0 0) : HM l D n0 yX5_map cX5_map 4 (some .int) 1 22 [.ref (n0 + 113), .int (nI s), .int (nI j), .int (nI k)] (κ, μ, o) (some (.int (if y 1 (16 * s + j) = 0 then -1 else y 6 (40 * (16 * s + j) + k)))) (κ, y, o) := by
  refine HM.of (by decide) (by simp [Value.category]) (by simp) (Or.inr (Or.inl ⟨_, .int, rfl, rfl, rfl⟩)) ?_
  intro pp ee ss mm aa bb me cd Q C K hret
  show ZZ pp l ee (rmk 1 22) ss mm aa bb me cd D n0 127 4 0 0 Q _ 0 [some (.ref (n0 + 113)), some (.int (nI s)), some (.int (nI j)), some (.int (nI k))] []
  refine z_aload_n C rfl dX5_map_0 ?_
  refine z_iload_n C rfl dX5_map_1 ?_
  refine z_if_lt (tgt := 10) C dX5_map_2 (by decide) (fun h_2 => ?_) (fun h_2 => ?_)
  · exact absurd h_2 (nI_pos (by omega))
  · skip
    refine z_iload_n C rfl dX5_map_5 ?_
    refine z_iconst (v := 2) C (by decide +kernel) dX5_map_6 ?_
    refine z_icmp_le (tgt := 14) C dX5_map_7 (by decide) (fun h_7 => ?_) (fun h_7 => ?_)
    · have g_7 := cv_le (a := s) (b := 2) (by omega) (by omega) h_7
      refine z_iload_n C rfl dX5_map_14 ?_
      refine z_callS (As := [.int (nI j)]) (r := (some (.int (b2i (vNum (nI j)))))) (σ1 := (κ, μ, o)) (st := [.ref (n0 + 113)]) (st1 := [.int (b2i (vNum (nI j))), .ref (n0 + 113)]) C K ok_X5_54 (c_X5_isNumber l D n0 κ μ o (nI j)) rfl ⟨by decide, by decide⟩ ⟨Nat.zero_le _, Nat.zero_le _⟩ (by simp [Value.category]) dX5_map_15 rfl rfl ?_
      refine z_if_eq (tgt := 31) C dX5_map_18 (by decide) (fun h_18 => ?_) (fun h_18 => ?_)
      · have g_18 := cv_b0 h_18
        exact absurd g_18 (by rw [vNum_nI hj]; decide)
      · have g_18 := cv_b1 h_18
        refine z_iload_n C rfl dX5_map_21 ?_
        refine z_if_lt (tgt := 31) C dX5_map_22 (by decide) (fun h_22 => ?_) (fun h_22 => ?_)
        · exact absurd h_22 (nI_pos (by omega))
        · skip
          refine z_iload_n C rfl dX5_map_25 ?_
          refine z_bipush (v := 40) C (by decide +kernel) dX5_map_26 ?_
          refine z_icmp_lt (tgt := 35) C dX5_map_28 (by decide) (fun h_28 => ?_) (fun h_28 => ?_)
          · have g_28 := cv_lt (a := k) (b := 40) (by omega) (by omega) h_28
            refine z_iconst (v := 0) C (by decide +kernel) dX5_map_35 ?_
            refine pf_X5_51 (x := 0) C dX5_map_36 ?_
            rw [← hy]
            refine z_aload_n C rfl dX5_map_39 ?_
            refine gf_X5_51 (v := 0) C (by rw [hy]; exact up_self) dX5_map_40 ?_
            refine z_if_le (tgt := 50) C dX5_map_43 (by decide) (fun h_43 => ?_) (fun h_43 => ?_)
            · skip
              refine z_aload_n C rfl dX5_map_50 ?_
              refine gf_X5_7 C dX5_map_51 ?_
              refine z_bipush (v := 16) C (by decide +kernel) dX5_map_54 ?_
              refine z_iload_n C rfl dX5_map_56 ?_
              refine z_imul (v := nI (16 * s)) C (cv_mul 16 s) dX5_map_57 ?_
              refine z_iload_n C rfl dX5_map_58 ?_
              refine z_iadd (v := nI (16 * s + j)) C (cv_add (16 * s) j) dX5_map_59 ?_
              refine al_114 (v := y 1 (16 * s + j)) C (16 * s + j) rfl (by omega) rfl dX5_map_60 ?_
              refine z_if_eq (tgt := 78) C dX5_map_61 (by decide) (fun h_61 => ?_) (fun h_61 => ?_)
              · skip
                refine z_iconst (v := (-1)) C (by decide +kernel) dX5_map_78 ?_
                exact z_endI (hret _ _ dX5_map_79) (by rw [if_pos h_61]) rfl
              · skip
                refine z_aload_n C rfl dX5_map_64 ?_
                refine gf_X5_26 C dX5_map_65 ?_
                refine z_iload_n C rfl dX5_map_68 ?_
                refine z_iload_n C rfl dX5_map_69 ?_
                refine z_iload_n C rfl dX5_map_70 ?_
                refine z_callS (As := [.int (nI s), .int (nI j), .int (nI k)]) (r := (some (.int (nI (40 * (16 * s + j) + k))))) (σ1 := (κ, y, o)) (st := [.ref (n0 + 119)]) (st1 := [.int (nI (40 * (16 * s + j) + k)), .ref (n0 + 119)]) C K ok_X5_58 (c_X5_at l D n0 κ y o s j k) rfl ⟨by decide, by decide⟩ ⟨Nat.zero_le _, Nat.zero_le _⟩ (by simp [Value.category]) dX5_map_71 rfl rfl ?_
                refine al_119 (v := y 6 (40 * (16 * s + j) + k)) C (40 * (16 * s + j) + k) rfl (by omega) rfl dX5_map_74 ?_
                refine z_goto (tgt := 79) C dX5_map_75 (by decide) ?_
                exact z_endI (hret _ _ dX5_map_79) (by rw [if_neg h_61]) rfl
            · exact absurd h_43 (by decide +kernel)
          · have g_28 := cv_nlt (a := k) (b := 40) (by omega) (by omega) h_28
            exact absurd g_28 (by omega)
    · have g_7 := cv_nle (a := s) (b := 2) (by omega) (by omega) h_7
      exact absurd g_7 (by omega)
set_option maxHeartbeats 4000000 in
set_option maxRecDepth 100000 in
theorem c_X5_users_1 (l : Launch) (D : DD) (n0 : Nat) (κ μ : KH) (o : Int64) (e : Int32) (hE : μ 0 9 = nI (nE μ)) (hE9 : nE μ < 97) (hb : ¬ okE μ e) : HM l D n0 yX5_users cX5_users 2 (some .int) 0 0 [.ref (n0 + 113), .int e] (κ, μ, o) (some (.int 0)) (κ, up μ 0 0 1, o) := by
  refine HM.of (by decide) (by simp [Value.category]) (by simp) (Or.inr (Or.inl ⟨_, .int, rfl, rfl, rfl⟩)) ?_
  intro pp ee ss mm aa bb me cd Q C K hret
  show ZZ pp l ee (rmk 0 0) ss mm aa bb me cd D n0 127 2 0 0 Q _ 0 [some (.ref (n0 + 113)), some (.int e)] []
  refine z_aload_n C rfl dX5_users_0 ?_
  refine z_iload_n C rfl dX5_users_1 ?_
  refine z_if_lt (tgt := 13) C dX5_users_2 (by decide) (fun h_2 => ?_) (fun h_2 => ?_)
  · skip
    refine z_iconst (v := 1) C (by decide +kernel) dX5_users_13 ?_
    refine z_goto (tgt := 18) C dX5_users_14 (by decide) ?_
    refine pf_X5_51 (x := 1) C dX5_users_18 ?_
    refine z_aload_n C rfl dX5_users_21 ?_
    refine gf_X5_51 (v := 1) C rfl dX5_users_22 ?_
    refine z_if_ne (tgt := 37) C dX5_users_25 (by decide) (fun h_25 => ?_) (fun h_25 => ?_)
    · skip
      refine z_iconst (v := 0) C (by decide +kernel) dX5_users_37 ?_
      exact z_endI (hret _ _ dX5_users_38) rfl rfl
    · exact absurd h_25 (by decide +kernel)
  · skip
    refine z_iload_n C rfl dX5_users_5 ?_
    refine z_aload_n C rfl dX5_users_6 ?_
    refine gf_X5_32 (v := nI (nE μ)) C hE dX5_users_7 ?_
    refine z_icmp_lt (tgt := 17) C dX5_users_10 (by decide) (fun h_10 => ?_) (fun h_10 => ?_)
    · exact absurd (nI_lit2 h_2 h_10 (by omega)) hb
    · skip
      refine z_iconst (v := 1) C (by decide +kernel) dX5_users_13 ?_
      refine z_goto (tgt := 18) C dX5_users_14 (by decide) ?_
      refine pf_X5_51 (x := 1) C dX5_users_18 ?_
      refine z_aload_n C rfl dX5_users_21 ?_
      refine gf_X5_51 (v := 1) C rfl dX5_users_22 ?_
      refine z_if_ne (tgt := 37) C dX5_users_25 (by decide) (fun h_25 => ?_) (fun h_25 => ?_)
      · skip
        refine z_iconst (v := 0) C (by decide +kernel) dX5_users_37 ?_
        exact z_endI (hret _ _ dX5_users_38) rfl rfl
      · exact absurd h_25 (by decide +kernel)
set_option maxHeartbeats 4000000 in
set_option maxRecDepth 100000 in
theorem c_X5_users (l : Launch) (D : DD) (n0 : Nat) (κ μ : KH) (o : Int64) (k : Nat) (hE : μ 0 9 = nI (nE μ)) (hE9 : nE μ < 97) (hk : k < nE μ) (y : KH) (hy : y = up μ 0 0 0) : HM l D n0 yX5_users cX5_users 2 (some .int) 2 47 [.ref (n0 + 113), .int (nI k)] (κ, μ, o) (some (.int (nI (mUse y 0 (nI k))))) (κ, y, o) := by
  refine HM.of (by decide) (by simp [Value.category]) (by simp) (Or.inr (Or.inl ⟨_, .int, rfl, rfl, rfl⟩)) ?_
  intro pp ee ss mm aa bb me cd Q C K hret
  show ZZ pp l ee (rmk 2 47) ss mm aa bb me cd D n0 127 2 0 0 Q _ 0 [some (.ref (n0 + 113)), some (.int (nI k))] []
  refine z_aload_n C rfl dX5_users_0 ?_
  refine z_iload_n C rfl dX5_users_1 ?_
  refine z_if_lt (tgt := 13) C dX5_users_2 (by decide) (fun h_2 => ?_) (fun h_2 => ?_)
  · exact absurd h_2 (nI_pos (by omega))
  · skip
    refine z_iload_n C rfl dX5_users_5 ?_
    refine z_aload_n C rfl dX5_users_6 ?_
    refine gf_X5_32 (v := nI (nE μ)) C hE dX5_users_7 ?_
    refine z_icmp_lt (tgt := 17) C dX5_users_10 (by decide) (fun h_10 => ?_) (fun h_10 => ?_)
    · have g_10 := cv_lt (a := k) (b := nE μ) (by omega) (by omega) h_10
      refine z_iconst (v := 0) C (by decide +kernel) dX5_users_17 ?_
      refine pf_X5_51 (x := 0) C dX5_users_18 ?_
      rw [← hy]
      refine z_aload_n C rfl dX5_users_21 ?_
      refine gf_X5_51 (v := 0) C (by rw [hy]; exact up_self) dX5_users_22 ?_
      refine z_if_ne (tgt := 37) C dX5_users_25 (by decide) (fun h_25 => ?_) (fun h_25 => ?_)
      · exact absurd h_25 (by decide +kernel)
      · skip
        refine z_aload_n C rfl dX5_users_28 ?_
        refine z_iconst (v := 0) C (by decide +kernel) dX5_users_29 ?_
        refine z_iload_n C rfl dX5_users_30 ?_
        refine z_callV (As := [.int 0, .int (nI k)]) (r := (some (.int (nI (mUse y 0 (nI k)))))) (σ1 := (κ, y, o)) (st := []) (st1 := [.int (nI (mUse y 0 (nI k)))]) C K ok_X5_62 (c_X5_usersOf l D n0 κ y o 0 (nI k) (by omega)) enc_M (by decide) rfl rfl ⟨by decide, by decide⟩ ⟨Nat.zero_le _, Nat.zero_le _⟩ (by simp [Value.category]) dX5_users_31 rfl rfl ?_
        refine z_goto (tgt := 38) C dX5_users_34 (by decide) ?_
        exact z_endI (hret _ _ dX5_users_38) rfl rfl
    · have g_10 := cv_nlt (a := k) (b := nE μ) (by omega) (by omega) h_10
      exact absurd g_10 (by omega)
set_option maxHeartbeats 4000000 in
set_option maxRecDepth 100000 in
theorem c_X5_user_1 (l : Launch) (D : DD) (n0 : Nat) (κ μ : KH) (o : Int64) (e i : Int32) (hE : μ 0 9 = nI (nE μ)) (hE9 : nE μ < 97) (hb : ¬ okE μ e) (y : KH) (hy : y = up μ 0 0 1) : HM l D n0 yX5_user cX5_user 6 (some .int) 0 0 [.ref (n0 + 113), .int e, .int i] (κ, μ, o) (some (.int 0)) (κ, y, o) := by
  refine HM.of (by decide) (by simp [Value.category]) (by simp) (Or.inr (Or.inl ⟨_, .int, rfl, rfl, rfl⟩)) ?_
  intro pp ee ss mm aa bb me cd Q C K hret
  show ZZ pp l ee (rmk 0 0) ss mm aa bb me cd D n0 127 6 0 0 Q _ 0 [some (.ref (n0 + 113)), some (.int e), some (.int i), none, none, none] []
  refine z_aload_n C rfl dX5_user_0 ?_
  refine z_iload_n C rfl dX5_user_1 ?_
  refine z_if_lt (tgt := 13) C dX5_user_2 (by decide) (fun h_2 => ?_) (fun h_2 => ?_)
  · skip
    refine z_iconst (v := 1) C (by decide +kernel) dX5_user_13 ?_
    refine z_goto (tgt := 18) C dX5_user_14 (by decide) ?_
    refine pf_X5_51 (x := 1) C dX5_user_18 ?_
    rw [← hy]
    refine z_iconst (v := 0) C (by decide +kernel) dX5_user_21 ?_
    refine z_istore_n (ls' := [some (.ref (n0 + 113)), some (.int e), some (.int i), some (.int 0), none, none]) C (by decide) rfl dX5_user_22 ?_
    refine z_iconst (v := 0) C (by decide +kernel) dX5_user_23 ?_
    refine z_istore (ls' := [some (.ref (n0 + 113)), some (.int e), some (.int i), some (.int 0), some (.int 0), none]) C (by decide) rfl dX5_user_24 ?_
    refine z_cast (σ1 := (κ, y, o)) (ls' := [some (.ref (n0 + 113)), some (.int e), some (.int i), some (.int 0), some (.int (nI 0)), none]) (st' := []) (z_for (P := fun v => ZZ pp l ee (rmk 0 0) ss mm aa bb me cd D n0 127 6 0 0 Q (κ, y, o) 26 [some (.ref (n0 + 113)), some (.int e), some (.int i), some (.int 0), some (.int (nI v)), none] []) (16) ?_ ?_ 0 (Nat.zero_le _)) rfl ⟨rfl, rfl, rfl, rfl, rfl, trivial⟩ rfl
    · skip
      refine z_iload C rfl dX5_user_26 ?_
      refine z_bipush (v := 16) C (by decide +kernel) dX5_user_28 ?_
      refine z_icmp_ge (tgt := 106) C dX5_user_30 (by decide) (fun h_30 => ?_) (fun h_30 => ?_)
      · have g_30 := cv_le (a := 16) (b := 16) (by omega) (by omega) h_30
        refine z_aload_n C rfl dX5_user_106 ?_
        refine gf_X5_51 (v := 1) C (by rw [hy]; exact up_self) dX5_user_107 ?_
        refine z_if_ne (tgt := 117) C dX5_user_110 (by decide) (fun h_110 => ?_) (fun h_110 => ?_)
        · skip
          refine z_iconst (v := 0) C (by decide +kernel) dX5_user_117 ?_
          exact z_endI (hret _ _ dX5_user_118) rfl rfl
        · exact absurd h_110 (by decide +kernel)
      · have g_30 := cv_nle (a := 16) (b := 16) (by omega) (by omega) h_30
        exact absurd g_30 (by omega)
    · intro v hi_26 ih_26
      refine z_iload C rfl dX5_user_26 ?_
      refine z_bipush (v := 16) C (by decide +kernel) dX5_user_28 ?_
      refine z_icmp_ge (tgt := 106) C dX5_user_30 (by decide) (fun h_30 => ?_) (fun h_30 => ?_)
      · have g_30 := cv_le (a := 16) (b := v) (by omega) (by omega) h_30
        exact absurd hi_26 (by omega)
      · have g_30 := cv_nle (a := 16) (b := v) (by omega) (by omega) h_30
        refine z_iconst (v := 0) C (by decide +kernel) dX5_user_33 ?_
        refine z_istore (ls' := [some (.ref (n0 + 113)), some (.int e), some (.int i), some (.int 0), some (.int (nI v)), some (.int 0)]) C (by decide) rfl dX5_user_34 ?_
        refine z_iload C rfl dX5_user_36 ?_
        refine z_bipush (v := 40) C (by decide +kernel) dX5_user_38 ?_
        refine z_icmp_ge (tgt := 100) C dX5_user_40 (by decide) (fun h_40 => ?_) (fun h_40 => ?_)
        · exact absurd h_40 (by decide +kernel)
        · skip
          refine z_aload_n C rfl dX5_user_43 ?_
          refine gf_X5_51 (v := 1) C (by rw [hy]; exact up_self) dX5_user_44 ?_
          refine z_if_ne (tgt := 100) C dX5_user_47 (by decide) (fun h_47 => ?_) (fun h_47 => ?_)
          · skip
            refine z_iinc (v := nI (v + 1)) (ls' := [some (.ref (n0 + 113)), some (.int e), some (.int i), some (.int 0), some (.int (nI (v + 1))), some (.int 0)]) C rfl (cv_inc v 1) (by decide) rfl dX5_user_100 ?_
            refine z_goto (tgt := 26) C dX5_user_103 (by decide) ?_
            exact z_cast (σ1 := (κ, y, o)) (ls' := [some (.ref (n0 + 113)), some (.int e), some (.int i), some (.int 0), some (.int (nI (v + 1))), none]) (st' := []) (ih_26) rfl ⟨rfl, rfl, rfl, rfl, rfl, trivial⟩ rfl
          · exact absurd h_47 (by decide +kernel)
  · skip
    refine z_iload_n C rfl dX5_user_5 ?_
    refine z_aload_n C rfl dX5_user_6 ?_
    refine gf_X5_32 (v := nI (nE μ)) C hE dX5_user_7 ?_
    refine z_icmp_lt (tgt := 17) C dX5_user_10 (by decide) (fun h_10 => ?_) (fun h_10 => ?_)
    · exact absurd (nI_lit2 h_2 h_10 (by omega)) hb
    · skip
      refine z_iconst (v := 1) C (by decide +kernel) dX5_user_13 ?_
      refine z_goto (tgt := 18) C dX5_user_14 (by decide) ?_
      refine pf_X5_51 (x := 1) C dX5_user_18 ?_
      rw [← hy]
      refine z_iconst (v := 0) C (by decide +kernel) dX5_user_21 ?_
      refine z_istore_n (ls' := [some (.ref (n0 + 113)), some (.int e), some (.int i), some (.int 0), none, none]) C (by decide) rfl dX5_user_22 ?_
      refine z_iconst (v := 0) C (by decide +kernel) dX5_user_23 ?_
      refine z_istore (ls' := [some (.ref (n0 + 113)), some (.int e), some (.int i), some (.int 0), some (.int 0), none]) C (by decide) rfl dX5_user_24 ?_
      refine z_cast (σ1 := (κ, y, o)) (ls' := [some (.ref (n0 + 113)), some (.int e), some (.int i), some (.int 0), some (.int (nI 0)), none]) (st' := []) (z_for (P := fun v => ZZ pp l ee (rmk 0 0) ss mm aa bb me cd D n0 127 6 0 0 Q (κ, y, o) 26 [some (.ref (n0 + 113)), some (.int e), some (.int i), some (.int 0), some (.int (nI v)), none] []) (16) ?_ ?_ 0 (Nat.zero_le _)) rfl ⟨rfl, rfl, rfl, rfl, rfl, trivial⟩ rfl
      · skip
        refine z_iload C rfl dX5_user_26 ?_
        refine z_bipush (v := 16) C (by decide +kernel) dX5_user_28 ?_
        refine z_icmp_ge (tgt := 106) C dX5_user_30 (by decide) (fun h_30 => ?_) (fun h_30 => ?_)
        · have g_30 := cv_le (a := 16) (b := 16) (by omega) (by omega) h_30
          refine z_aload_n C rfl dX5_user_106 ?_
          refine gf_X5_51 (v := 1) C (by rw [hy]; exact up_self) dX5_user_107 ?_
          refine z_if_ne (tgt := 117) C dX5_user_110 (by decide) (fun h_110 => ?_) (fun h_110 => ?_)
          · skip
            refine z_iconst (v := 0) C (by decide +kernel) dX5_user_117 ?_
            exact z_endI (hret _ _ dX5_user_118) rfl rfl
          · exact absurd h_110 (by decide +kernel)
        · have g_30 := cv_nle (a := 16) (b := 16) (by omega) (by omega) h_30
          exact absurd g_30 (by omega)
      · intro v hi_26 ih_26
        refine z_iload C rfl dX5_user_26 ?_
        refine z_bipush (v := 16) C (by decide +kernel) dX5_user_28 ?_
        refine z_icmp_ge (tgt := 106) C dX5_user_30 (by decide) (fun h_30 => ?_) (fun h_30 => ?_)
        · have g_30 := cv_le (a := 16) (b := v) (by omega) (by omega) h_30
          exact absurd hi_26 (by omega)
        · have g_30 := cv_nle (a := 16) (b := v) (by omega) (by omega) h_30
          refine z_iconst (v := 0) C (by decide +kernel) dX5_user_33 ?_
          refine z_istore (ls' := [some (.ref (n0 + 113)), some (.int e), some (.int i), some (.int 0), some (.int (nI v)), some (.int 0)]) C (by decide) rfl dX5_user_34 ?_
          refine z_iload C rfl dX5_user_36 ?_
          refine z_bipush (v := 40) C (by decide +kernel) dX5_user_38 ?_
          refine z_icmp_ge (tgt := 100) C dX5_user_40 (by decide) (fun h_40 => ?_) (fun h_40 => ?_)
          · exact absurd h_40 (by decide +kernel)
          · skip
            refine z_aload_n C rfl dX5_user_43 ?_
            refine gf_X5_51 (v := 1) C (by rw [hy]; exact up_self) dX5_user_44 ?_
            refine z_if_ne (tgt := 100) C dX5_user_47 (by decide) (fun h_47 => ?_) (fun h_47 => ?_)
            · skip
              refine z_iinc (v := nI (v + 1)) (ls' := [some (.ref (n0 + 113)), some (.int e), some (.int i), some (.int 0), some (.int (nI (v + 1))), some (.int 0)]) C rfl (cv_inc v 1) (by decide) rfl dX5_user_100 ?_
              refine z_goto (tgt := 26) C dX5_user_103 (by decide) ?_
              exact z_cast (σ1 := (κ, y, o)) (ls' := [some (.ref (n0 + 113)), some (.int e), some (.int i), some (.int 0), some (.int (nI (v + 1))), none]) (st' := []) (ih_26) rfl ⟨rfl, rfl, rfl, rfl, rfl, trivial⟩ rfl
            · exact absurd h_47 (by decide +kernel)
set_option maxHeartbeats 4000000 in
set_option maxRecDepth 100000 in
theorem c_X5_user_n (l : Launch) (D : DD) (n0 : Nat) (κ μ : KH) (o : Int64) (k : Nat) (i : Int32) (hE : μ 0 9 = nI (nE μ)) (hE9 : nE μ < 97) (hk : k < nE μ) (y : KH) (hy : y = up μ 0 0 0) (hno : ∀ v q : Nat, v < 16 → q < 40 → y 1 v ≠ 0 → y 6 (40 * v + q) = nI k → ¬ nI (sumTo (mF y 0 (nI k)) v + sumTo (mG y 0 v (nI k)) q) = i) : HM l D n0 yX5_user cX5_user 6 (some .int) 1 22 [.ref (n0 + 113), .int (nI k), .int i] (κ, μ, o) (some (.int ((-1)))) (κ, y, o) := by
  refine HM.of (by decide) (by simp [Value.category]) (by simp) (Or.inr (Or.inl ⟨_, .int, rfl, rfl, rfl⟩)) ?_
  intro pp ee ss mm aa bb me cd Q C K hret
  show ZZ pp l ee (rmk 1 22) ss mm aa bb me cd D n0 127 6 0 0 Q _ 0 [some (.ref (n0 + 113)), some (.int (nI k)), some (.int i), none, none, none] []
  refine z_aload_n C rfl dX5_user_0 ?_
  refine z_iload_n C rfl dX5_user_1 ?_
  refine z_if_lt (tgt := 13) C dX5_user_2 (by decide) (fun h_2 => ?_) (fun h_2 => ?_)
  · exact absurd h_2 (nI_pos (by omega))
  · skip
    refine z_iload_n C rfl dX5_user_5 ?_
    refine z_aload_n C rfl dX5_user_6 ?_
    refine gf_X5_32 (v := nI (nE μ)) C hE dX5_user_7 ?_
    refine z_icmp_lt (tgt := 17) C dX5_user_10 (by decide) (fun h_10 => ?_) (fun h_10 => ?_)
    · have g_10 := cv_lt (a := k) (b := nE μ) (by omega) (by omega) h_10
      refine z_iconst (v := 0) C (by decide +kernel) dX5_user_17 ?_
      refine pf_X5_51 (x := 0) C dX5_user_18 ?_
      rw [← hy]
      refine z_iconst (v := 0) C (by decide +kernel) dX5_user_21 ?_
      refine z_istore_n (ls' := [some (.ref (n0 + 113)), some (.int (nI k)), some (.int i), some (.int 0), none, none]) C (by decide) rfl dX5_user_22 ?_
      refine z_iconst (v := 0) C (by decide +kernel) dX5_user_23 ?_
      refine z_istore (ls' := [some (.ref (n0 + 113)), some (.int (nI k)), some (.int i), some (.int 0), some (.int 0), none]) C (by decide) rfl dX5_user_24 ?_
      refine z_cast (σ1 := (κ, y, o)) (ls' := [some (.ref (n0 + 113)), some (.int (nI k)), some (.int i), some (.int (nI (sumTo (mF y 0 (nI k)) 0))), some (.int (nI 0)), none]) (st' := []) (z_for (P := fun v => ZZ pp l ee (rmk 1 22) ss mm aa bb me cd D n0 127 6 0 0 Q (κ, y, o) 26 [some (.ref (n0 + 113)), some (.int (nI k)), some (.int i), some (.int (nI (sumTo (mF y 0 (nI k)) v))), some (.int (nI v)), none] []) (16) ?_ ?_ 0 (Nat.zero_le _)) rfl ⟨rfl, rfl, rfl, rfl, rfl, trivial⟩ rfl
      · skip
        refine z_iload C rfl dX5_user_26 ?_
        refine z_bipush (v := 16) C (by decide +kernel) dX5_user_28 ?_
        refine z_icmp_ge (tgt := 106) C dX5_user_30 (by decide) (fun h_30 => ?_) (fun h_30 => ?_)
        · have g_30 := cv_le (a := 16) (b := 16) (by omega) (by omega) h_30
          refine z_aload_n C rfl dX5_user_106 ?_
          refine gf_X5_51 (v := 0) C (by rw [hy]; exact up_self) dX5_user_107 ?_
          refine z_if_ne (tgt := 117) C dX5_user_110 (by decide) (fun h_110 => ?_) (fun h_110 => ?_)
          · exact absurd h_110 (by decide +kernel)
          · skip
            refine z_iconst (v := (-1)) C (by decide +kernel) dX5_user_113 ?_
            refine z_goto (tgt := 118) C dX5_user_114 (by decide) ?_
            exact z_endI (hret _ _ dX5_user_118) rfl rfl
        · have g_30 := cv_nle (a := 16) (b := 16) (by omega) (by omega) h_30
          exact absurd g_30 (by omega)
      · intro v hi_26 ih_26
        refine z_iload C rfl dX5_user_26 ?_
        refine z_bipush (v := 16) C (by decide +kernel) dX5_user_28 ?_
        refine z_icmp_ge (tgt := 106) C dX5_user_30 (by decide) (fun h_30 => ?_) (fun h_30 => ?_)
        · have g_30 := cv_le (a := 16) (b := v) (by omega) (by omega) h_30
          exact absurd hi_26 (by omega)
        · have g_30 := cv_nle (a := 16) (b := v) (by omega) (by omega) h_30
          by_cases hth : y 1 (16 * 0 + v) = 0
          · have ht0 : y 1 v = 0 := by rw [← hth]; congr 1; omega
            refine z_iconst (v := 0) C (by decide +kernel) dX5_user_33 ?_
            refine z_istore (ls' := [some (.ref (n0 + 113)), some (.int (nI k)), some (.int i), some (.int (nI (sumTo (mF y 0 (nI k)) v))), some (.int (nI v)), some (.int 0)]) C (by decide) rfl dX5_user_34 ?_
            refine z_iload C rfl dX5_user_36 ?_
            refine z_bipush (v := 40) C (by decide +kernel) dX5_user_38 ?_
            refine z_icmp_ge (tgt := 100) C dX5_user_40 (by decide) (fun h_40 => ?_) (fun h_40 => ?_)
            · exact absurd h_40 (by decide +kernel)
            · skip
              refine z_aload_n C rfl dX5_user_43 ?_
              refine gf_X5_51 (v := 0) C (by rw [hy]; exact up_self) dX5_user_44 ?_
              refine z_if_ne (tgt := 100) C dX5_user_47 (by decide) (fun h_47 => ?_) (fun h_47 => ?_)
              · exact absurd h_47 (by decide +kernel)
              · skip
                refine z_aload_n C rfl dX5_user_50 ?_
                refine gf_X5_7 C dX5_user_51 ?_
                refine z_iload C rfl dX5_user_54 ?_
                refine al_114 (v := y 1 v) C (v) rfl (by omega) rfl dX5_user_56 ?_
                refine z_if_eq (tgt := 100) C dX5_user_57 (by decide) (fun h_57 => ?_) (fun h_57 => ?_)
                · skip
                  refine z_iinc (v := nI (v + 1)) (ls' := [some (.ref (n0 + 113)), some (.int (nI k)), some (.int i), some (.int (nI (sumTo (mF y 0 (nI k)) v))), some (.int (nI (v + 1))), some (.int 0)]) C rfl (cv_inc v 1) (by decide) rfl dX5_user_100 ?_
                  refine z_goto (tgt := 26) C dX5_user_103 (by decide) ?_
                  exact z_cast (σ1 := (κ, y, o)) (ls' := [some (.ref (n0 + 113)), some (.int (nI k)), some (.int i), some (.int (nI (sumTo (mF y 0 (nI k)) (v + 1)))), some (.int (nI (v + 1))), none]) (st' := []) (ih_26) rfl ⟨rfl, rfl, rfl, (so_int (by simp [sumTo, mF, ht0])), rfl, trivial⟩ rfl
                · exact absurd ht0 h_57
          · have ht1 : ¬ y 1 v = 0 := fun q => hth (by rw [← q]; congr 1; omega)
            refine z_iconst (v := 0) C (by decide +kernel) dX5_user_33 ?_
            refine z_istore (ls' := [some (.ref (n0 + 113)), some (.int (nI k)), some (.int i), some (.int (nI (sumTo (mF y 0 (nI k)) v))), some (.int (nI v)), some (.int 0)]) C (by decide) rfl dX5_user_34 ?_
            refine z_cast (σ1 := (κ, y, o)) (ls' := [some (.ref (n0 + 113)), some (.int (nI k)), some (.int i), some (.int (nI (sumTo (mF y 0 (nI k)) v + sumTo (mG y 0 v (nI k)) 0))), some (.int (nI v)), some (.int (nI 0))]) (st' := []) (z_for (P := fun q => ZZ pp l ee (rmk 1 22) ss mm aa bb me cd D n0 127 6 0 0 Q (κ, y, o) 36 [some (.ref (n0 + 113)), some (.int (nI k)), some (.int i), some (.int (nI (sumTo (mF y 0 (nI k)) v + sumTo (mG y 0 v (nI k)) q))), some (.int (nI v)), some (.int (nI q))] []) (40) ?_ ?_ 0 (Nat.zero_le _)) rfl ⟨rfl, rfl, rfl, (so_int (by simp [sumTo])), rfl, rfl, trivial⟩ rfl
            · skip
              refine z_iload C rfl dX5_user_36 ?_
              refine z_bipush (v := 40) C (by decide +kernel) dX5_user_38 ?_
              refine z_icmp_ge (tgt := 100) C dX5_user_40 (by decide) (fun h_40 => ?_) (fun h_40 => ?_)
              · have g_40 := cv_le (a := 40) (b := 40) (by omega) (by omega) h_40
                refine z_iinc (v := nI (v + 1)) (ls' := [some (.ref (n0 + 113)), some (.int (nI k)), some (.int i), some (.int (nI (sumTo (mF y 0 (nI k)) v + sumTo (mG y 0 v (nI k)) 40))), some (.int (nI (v + 1))), some (.int (nI 40))]) C rfl (cv_inc v 1) (by decide) rfl dX5_user_100 ?_
                refine z_goto (tgt := 26) C dX5_user_103 (by decide) ?_
                exact z_cast (σ1 := (κ, y, o)) (ls' := [some (.ref (n0 + 113)), some (.int (nI k)), some (.int i), some (.int (nI (sumTo (mF y 0 (nI k)) (v + 1)))), some (.int (nI (v + 1))), none]) (st' := []) (ih_26) rfl ⟨rfl, rfl, rfl, (so_int (by simp [sumTo, mF, ht1])), rfl, trivial⟩ rfl
              · have g_40 := cv_nle (a := 40) (b := 40) (by omega) (by omega) h_40
                exact absurd g_40 (by omega)
            · intro q hi_36 ih_36
              refine z_iload C rfl dX5_user_36 ?_
              refine z_bipush (v := 40) C (by decide +kernel) dX5_user_38 ?_
              refine z_icmp_ge (tgt := 100) C dX5_user_40 (by decide) (fun h_40 => ?_) (fun h_40 => ?_)
              · have g_40 := cv_le (a := 40) (b := q) (by omega) (by omega) h_40
                exact absurd hi_36 (by omega)
              · have g_40 := cv_nle (a := 40) (b := q) (by omega) (by omega) h_40
                refine z_aload_n C rfl dX5_user_43 ?_
                refine gf_X5_51 (v := 0) C (by rw [hy]; exact up_self) dX5_user_44 ?_
                refine z_if_ne (tgt := 100) C dX5_user_47 (by decide) (fun h_47 => ?_) (fun h_47 => ?_)
                · exact absurd h_47 (by decide +kernel)
                · skip
                  refine z_aload_n C rfl dX5_user_50 ?_
                  refine gf_X5_7 C dX5_user_51 ?_
                  refine z_iload C rfl dX5_user_54 ?_
                  refine al_114 (v := y 1 v) C (v) rfl (by omega) rfl dX5_user_56 ?_
                  refine z_if_eq (tgt := 100) C dX5_user_57 (by decide) (fun h_57 => ?_) (fun h_57 => ?_)
                  · exact absurd h_57 ht1
                  · skip
                    refine z_aload_n C rfl dX5_user_60 ?_
                    refine gf_X5_26 C dX5_user_61 ?_
                    refine z_iconst (v := 0) C (by decide +kernel) dX5_user_64 ?_
                    refine z_iload C rfl dX5_user_65 ?_
                    refine z_iload C rfl dX5_user_67 ?_
                    refine z_callS (As := [.int 0, .int (nI v), .int (nI q)]) (r := (some (.int (nI (40 * v + q))))) (σ1 := (κ, y, o)) (st := [.ref (n0 + 119)]) (st1 := [.int (nI (40 * v + q)), .ref (n0 + 119)]) C K ok_X5_58 (c_X5_at0 l D n0 κ y o v q) rfl ⟨by decide, by decide⟩ ⟨Nat.zero_le _, Nat.zero_le _⟩ (by simp [Value.category]) dX5_user_69 rfl rfl ?_
                    refine al_119 (v := y 6 (40 * v + q)) C (40 * v + q) rfl (by omega) rfl dX5_user_72 ?_
                    refine z_iload_n C rfl dX5_user_73 ?_
                    refine z_icmp_ne (tgt := 94) C dX5_user_74 (by decide) (fun h_74 => ?_) (fun h_74 => ?_)
                    · skip
                      refine z_iinc (v := nI (q + 1)) (ls' := [some (.ref (n0 + 113)), some (.int (nI k)), some (.int i), some (.int (nI (sumTo (mF y 0 (nI k)) v + sumTo (mG y 0 v (nI k)) q))), some (.int (nI v)), some (.int (nI (q + 1)))]) C rfl (cv_inc q 1) (by decide) rfl dX5_user_94 ?_
                      refine z_goto (tgt := 36) C dX5_user_97 (by decide) ?_
                      exact z_cast (σ1 := (κ, y, o)) (ls' := [some (.ref (n0 + 113)), some (.int (nI k)), some (.int i), some (.int (nI (sumTo (mF y 0 (nI k)) v + sumTo (mG y 0 v (nI k)) (q + 1)))), some (.int (nI v)), some (.int (nI (q + 1)))]) (st' := []) (ih_36) rfl ⟨rfl, rfl, rfl, (so_int (by simp [sumTo, mG, h_74, Nat.add_assoc])), rfl, rfl, trivial⟩ rfl
                    · skip
                      refine z_iload_n C rfl dX5_user_77 ?_
                      refine z_iload_n C rfl dX5_user_78 ?_
                      refine z_icmp_ne (tgt := 91) C dX5_user_79 (by decide) (fun h_79 => ?_) (fun h_79 => ?_)
                      · skip
                        refine z_iinc (v := nI (sumTo (mF y 0 (nI k)) v + sumTo (mG y 0 v (nI k)) q + 1)) (ls' := [some (.ref (n0 + 113)), some (.int (nI k)), some (.int i), some (.int (nI (sumTo (mF y 0 (nI k)) v + sumTo (mG y 0 v (nI k)) q + 1))), some (.int (nI v)), some (.int (nI q))]) C rfl (cv_inc (sumTo (mF y 0 (nI k)) v + sumTo (mG y 0 v (nI k)) q) 1) (by decide) rfl dX5_user_91 ?_
                        refine z_iinc (v := nI (q + 1)) (ls' := [some (.ref (n0 + 113)), some (.int (nI k)), some (.int i), some (.int (nI (sumTo (mF y 0 (nI k)) v + sumTo (mG y 0 v (nI k)) q + 1))), some (.int (nI v)), some (.int (nI (q + 1)))]) C rfl (cv_inc q 1) (by decide) rfl dX5_user_94 ?_
                        refine z_goto (tgt := 36) C dX5_user_97 (by decide) ?_
                        exact z_cast (σ1 := (κ, y, o)) (ls' := [some (.ref (n0 + 113)), some (.int (nI k)), some (.int i), some (.int (nI (sumTo (mF y 0 (nI k)) v + sumTo (mG y 0 v (nI k)) (q + 1)))), some (.int (nI v)), some (.int (nI (q + 1)))]) (st' := []) (ih_36) rfl ⟨rfl, rfl, rfl, (so_int (by simp [sumTo, mG, h_74, Nat.add_assoc])), rfl, rfl, trivial⟩ rfl
                      · exact absurd h_79 (hno v q hi_26 hi_36 ht1 h_74)
    · have g_10 := cv_nlt (a := k) (b := nE μ) (by omega) (by omega) h_10
      exact absurd g_10 (by omega)
set_option maxHeartbeats 4000000 in
set_option maxRecDepth 100000 in
theorem c_X5_user (l : Launch) (D : DD) (n0 : Nat) (κ μ : KH) (o : Int64) (k : Nat) (i : Int32) (hE : μ 0 9 = nI (nE μ)) (hE9 : nE μ < 97) (hk : k < nE μ) (y : KH) (hy : y = up μ 0 0 0) (v0 p0 : Nat) (hv0 : v0 < 16) (hp0 : p0 < 40) (ht0v : y 1 v0 ≠ 0) (hm0 : y 6 (40 * v0 + p0) = nI k) (hi0 : nI (sumTo (mF y 0 (nI k)) v0 + sumTo (mG y 0 v0 (nI k)) p0) = i) (hno : ∀ v q : Nat, (v < v0 ∧ q < 40 ∨ v = v0 ∧ q < p0) → y 1 v ≠ 0 → y 6 (40 * v + q) = nI k → ¬ nI (sumTo (mF y 0 (nI k)) v + sumTo (mG y 0 v (nI k)) q) = i) : HM l D n0 yX5_user cX5_user 6 (some .int) 1 22 [.ref (n0 + 113), .int (nI k), .int i] (κ, μ, o) (some (.int (nI (64 * v0 + p0)))) (κ, y, o) := by
  refine HM.of (by decide) (by simp [Value.category]) (by simp) (Or.inr (Or.inl ⟨_, .int, rfl, rfl, rfl⟩)) ?_
  intro pp ee ss mm aa bb me cd Q C K hret
  show ZZ pp l ee (rmk 1 22) ss mm aa bb me cd D n0 127 6 0 0 Q _ 0 [some (.ref (n0 + 113)), some (.int (nI k)), some (.int i), none, none, none] []
  refine z_aload_n C rfl dX5_user_0 ?_
  refine z_iload_n C rfl dX5_user_1 ?_
  refine z_if_lt (tgt := 13) C dX5_user_2 (by decide) (fun h_2 => ?_) (fun h_2 => ?_)
  · exact absurd h_2 (nI_pos (by omega))
  · skip
    refine z_iload_n C rfl dX5_user_5 ?_
    refine z_aload_n C rfl dX5_user_6 ?_
    refine gf_X5_32 (v := nI (nE μ)) C hE dX5_user_7 ?_
    refine z_icmp_lt (tgt := 17) C dX5_user_10 (by decide) (fun h_10 => ?_) (fun h_10 => ?_)
    · have g_10 := cv_lt (a := k) (b := nE μ) (by omega) (by omega) h_10
      refine z_iconst (v := 0) C (by decide +kernel) dX5_user_17 ?_
      refine pf_X5_51 (x := 0) C dX5_user_18 ?_
      rw [← hy]
      refine z_iconst (v := 0) C (by decide +kernel) dX5_user_21 ?_
      refine z_istore_n (ls' := [some (.ref (n0 + 113)), some (.int (nI k)), some (.int i), some (.int 0), none, none]) C (by decide) rfl dX5_user_22 ?_
      refine z_iconst (v := 0) C (by decide +kernel) dX5_user_23 ?_
      refine z_istore (ls' := [some (.ref (n0 + 113)), some (.int (nI k)), some (.int i), some (.int 0), some (.int 0), none]) C (by decide) rfl dX5_user_24 ?_
      refine z_cast (σ1 := (κ, y, o)) (ls' := [some (.ref (n0 + 113)), some (.int (nI k)), some (.int i), some (.int (nI (sumTo (mF y 0 (nI k)) 0))), some (.int (nI 0)), none]) (st' := []) (z_for (P := fun v => ZZ pp l ee (rmk 1 22) ss mm aa bb me cd D n0 127 6 0 0 Q (κ, y, o) 26 [some (.ref (n0 + 113)), some (.int (nI k)), some (.int i), some (.int (nI (sumTo (mF y 0 (nI k)) v))), some (.int (nI v)), none] []) (v0) ?_ ?_ 0 (Nat.zero_le _)) rfl ⟨rfl, rfl, rfl, rfl, rfl, trivial⟩ rfl
      · skip
        refine z_iload C rfl dX5_user_26 ?_
        refine z_bipush (v := 16) C (by decide +kernel) dX5_user_28 ?_
        refine z_icmp_ge (tgt := 106) C dX5_user_30 (by decide) (fun h_30 => ?_) (fun h_30 => ?_)
        · have g_30 := cv_le (a := 16) (b := v0) (by omega) (by omega) h_30
          exact absurd g_30 (by omega)
        · have g_30 := cv_nle (a := 16) (b := v0) (by omega) (by omega) h_30
          have ht1 : ¬ y 1 v0 = 0 := ht0v
          · skip
            refine z_iconst (v := 0) C (by decide +kernel) dX5_user_33 ?_
            refine z_istore (ls' := [some (.ref (n0 + 113)), some (.int (nI k)), some (.int i), some (.int (nI (sumTo (mF y 0 (nI k)) v0))), some (.int (nI v0)), some (.int 0)]) C (by decide) rfl dX5_user_34 ?_
            refine z_cast (σ1 := (κ, y, o)) (ls' := [some (.ref (n0 + 113)), some (.int (nI k)), some (.int i), some (.int (nI (sumTo (mF y 0 (nI k)) v0 + sumTo (mG y 0 v0 (nI k)) 0))), some (.int (nI v0)), some (.int (nI 0))]) (st' := []) (z_for (P := fun q => ZZ pp l ee (rmk 1 22) ss mm aa bb me cd D n0 127 6 0 0 Q (κ, y, o) 36 [some (.ref (n0 + 113)), some (.int (nI k)), some (.int i), some (.int (nI (sumTo (mF y 0 (nI k)) v0 + sumTo (mG y 0 v0 (nI k)) q))), some (.int (nI v0)), some (.int (nI q))] []) (p0) ?_ ?_ 0 (Nat.zero_le _)) rfl ⟨rfl, rfl, rfl, (so_int (by simp [sumTo])), rfl, rfl, trivial⟩ rfl
            · skip
              refine z_iload C rfl dX5_user_36 ?_
              refine z_bipush (v := 40) C (by decide +kernel) dX5_user_38 ?_
              refine z_icmp_ge (tgt := 100) C dX5_user_40 (by decide) (fun h_40 => ?_) (fun h_40 => ?_)
              · have g_40 := cv_le (a := 40) (b := p0) (by omega) (by omega) h_40
                exact absurd g_40 (by omega)
              · have g_40 := cv_nle (a := 40) (b := p0) (by omega) (by omega) h_40
                refine z_aload_n C rfl dX5_user_43 ?_
                refine gf_X5_51 (v := 0) C (by rw [hy]; exact up_self) dX5_user_44 ?_
                refine z_if_ne (tgt := 100) C dX5_user_47 (by decide) (fun h_47 => ?_) (fun h_47 => ?_)
                · exact absurd h_47 (by decide +kernel)
                · skip
                  refine z_aload_n C rfl dX5_user_50 ?_
                  refine gf_X5_7 C dX5_user_51 ?_
                  refine z_iload C rfl dX5_user_54 ?_
                  refine al_114 (v := y 1 v0) C (v0) rfl (by omega) rfl dX5_user_56 ?_
                  refine z_if_eq (tgt := 100) C dX5_user_57 (by decide) (fun h_57 => ?_) (fun h_57 => ?_)
                  · exact absurd h_57 ht1
                  · skip
                    refine z_aload_n C rfl dX5_user_60 ?_
                    refine gf_X5_26 C dX5_user_61 ?_
                    refine z_iconst (v := 0) C (by decide +kernel) dX5_user_64 ?_
                    refine z_iload C rfl dX5_user_65 ?_
                    refine z_iload C rfl dX5_user_67 ?_
                    refine z_callS (As := [.int 0, .int (nI v0), .int (nI p0)]) (r := (some (.int (nI (40 * v0 + p0))))) (σ1 := (κ, y, o)) (st := [.ref (n0 + 119)]) (st1 := [.int (nI (40 * v0 + p0)), .ref (n0 + 119)]) C K ok_X5_58 (c_X5_at0 l D n0 κ y o v0 p0) rfl ⟨by decide, by decide⟩ ⟨Nat.zero_le _, Nat.zero_le _⟩ (by simp [Value.category]) dX5_user_69 rfl rfl ?_
                    refine al_119 (v := y 6 (40 * v0 + p0)) C (40 * v0 + p0) rfl (by omega) rfl dX5_user_72 ?_
                    refine z_iload_n C rfl dX5_user_73 ?_
                    refine z_icmp_ne (tgt := 94) C dX5_user_74 (by decide) (fun h_74 => ?_) (fun h_74 => ?_)
                    · exact absurd hm0 h_74
                    · skip
                      refine z_iload_n C rfl dX5_user_77 ?_
                      refine z_iload_n C rfl dX5_user_78 ?_
                      refine z_icmp_ne (tgt := 91) C dX5_user_79 (by decide) (fun h_79 => ?_) (fun h_79 => ?_)
                      · exact absurd hi0 h_79
                      · skip
                        refine z_bipush (v := 64) C (by decide +kernel) dX5_user_82 ?_
                        refine z_iload C rfl dX5_user_84 ?_
                        refine z_imul (v := nI (64 * v0)) C (cv_mul 64 v0) dX5_user_86 ?_
                        refine z_iload C rfl dX5_user_87 ?_
                        refine z_iadd (v := nI (64 * v0 + p0)) C (cv_add (64 * v0) p0) dX5_user_89 ?_
                        exact z_endI (hret _ _ dX5_user_90) rfl rfl
            · intro q hi_36 ih_36
              refine z_iload C rfl dX5_user_36 ?_
              refine z_bipush (v := 40) C (by decide +kernel) dX5_user_38 ?_
              refine z_icmp_ge (tgt := 100) C dX5_user_40 (by decide) (fun h_40 => ?_) (fun h_40 => ?_)
              · have g_40 := cv_le (a := 40) (b := q) (by omega) (by omega) h_40
                exact absurd g_40 (by omega)
              · have g_40 := cv_nle (a := 40) (b := q) (by omega) (by omega) h_40
                refine z_aload_n C rfl dX5_user_43 ?_
                refine gf_X5_51 (v := 0) C (by rw [hy]; exact up_self) dX5_user_44 ?_
                refine z_if_ne (tgt := 100) C dX5_user_47 (by decide) (fun h_47 => ?_) (fun h_47 => ?_)
                · exact absurd h_47 (by decide +kernel)
                · skip
                  refine z_aload_n C rfl dX5_user_50 ?_
                  refine gf_X5_7 C dX5_user_51 ?_
                  refine z_iload C rfl dX5_user_54 ?_
                  refine al_114 (v := y 1 v0) C (v0) rfl (by omega) rfl dX5_user_56 ?_
                  refine z_if_eq (tgt := 100) C dX5_user_57 (by decide) (fun h_57 => ?_) (fun h_57 => ?_)
                  · exact absurd h_57 ht1
                  · skip
                    refine z_aload_n C rfl dX5_user_60 ?_
                    refine gf_X5_26 C dX5_user_61 ?_
                    refine z_iconst (v := 0) C (by decide +kernel) dX5_user_64 ?_
                    refine z_iload C rfl dX5_user_65 ?_
                    refine z_iload C rfl dX5_user_67 ?_
                    refine z_callS (As := [.int 0, .int (nI v0), .int (nI q)]) (r := (some (.int (nI (40 * v0 + q))))) (σ1 := (κ, y, o)) (st := [.ref (n0 + 119)]) (st1 := [.int (nI (40 * v0 + q)), .ref (n0 + 119)]) C K ok_X5_58 (c_X5_at0 l D n0 κ y o v0 q) rfl ⟨by decide, by decide⟩ ⟨Nat.zero_le _, Nat.zero_le _⟩ (by simp [Value.category]) dX5_user_69 rfl rfl ?_
                    refine al_119 (v := y 6 (40 * v0 + q)) C (40 * v0 + q) rfl (by omega) rfl dX5_user_72 ?_
                    refine z_iload_n C rfl dX5_user_73 ?_
                    refine z_icmp_ne (tgt := 94) C dX5_user_74 (by decide) (fun h_74 => ?_) (fun h_74 => ?_)
                    · skip
                      refine z_iinc (v := nI (q + 1)) (ls' := [some (.ref (n0 + 113)), some (.int (nI k)), some (.int i), some (.int (nI (sumTo (mF y 0 (nI k)) v0 + sumTo (mG y 0 v0 (nI k)) q))), some (.int (nI v0)), some (.int (nI (q + 1)))]) C rfl (cv_inc q 1) (by decide) rfl dX5_user_94 ?_
                      refine z_goto (tgt := 36) C dX5_user_97 (by decide) ?_
                      exact z_cast (σ1 := (κ, y, o)) (ls' := [some (.ref (n0 + 113)), some (.int (nI k)), some (.int i), some (.int (nI (sumTo (mF y 0 (nI k)) v0 + sumTo (mG y 0 v0 (nI k)) (q + 1)))), some (.int (nI v0)), some (.int (nI (q + 1)))]) (st' := []) (ih_36) rfl ⟨rfl, rfl, rfl, (so_int (by simp [sumTo, mG, h_74, Nat.add_assoc])), rfl, rfl, trivial⟩ rfl
                    · skip
                      refine z_iload_n C rfl dX5_user_77 ?_
                      refine z_iload_n C rfl dX5_user_78 ?_
                      refine z_icmp_ne (tgt := 91) C dX5_user_79 (by decide) (fun h_79 => ?_) (fun h_79 => ?_)
                      · skip
                        refine z_iinc (v := nI (sumTo (mF y 0 (nI k)) v0 + sumTo (mG y 0 v0 (nI k)) q + 1)) (ls' := [some (.ref (n0 + 113)), some (.int (nI k)), some (.int i), some (.int (nI (sumTo (mF y 0 (nI k)) v0 + sumTo (mG y 0 v0 (nI k)) q + 1))), some (.int (nI v0)), some (.int (nI q))]) C rfl (cv_inc (sumTo (mF y 0 (nI k)) v0 + sumTo (mG y 0 v0 (nI k)) q) 1) (by decide) rfl dX5_user_91 ?_
                        refine z_iinc (v := nI (q + 1)) (ls' := [some (.ref (n0 + 113)), some (.int (nI k)), some (.int i), some (.int (nI (sumTo (mF y 0 (nI k)) v0 + sumTo (mG y 0 v0 (nI k)) q + 1))), some (.int (nI v0)), some (.int (nI (q + 1)))]) C rfl (cv_inc q 1) (by decide) rfl dX5_user_94 ?_
                        refine z_goto (tgt := 36) C dX5_user_97 (by decide) ?_
                        exact z_cast (σ1 := (κ, y, o)) (ls' := [some (.ref (n0 + 113)), some (.int (nI k)), some (.int i), some (.int (nI (sumTo (mF y 0 (nI k)) v0 + sumTo (mG y 0 v0 (nI k)) (q + 1)))), some (.int (nI v0)), some (.int (nI (q + 1)))]) (st' := []) (ih_36) rfl ⟨rfl, rfl, rfl, (so_int (by simp [sumTo, mG, h_74, Nat.add_assoc])), rfl, rfl, trivial⟩ rfl
                      · exact absurd h_79 (hno v0 q (Or.inr ⟨rfl, hi_36⟩) ht1 h_74)
      · intro v hi_26 ih_26
        refine z_iload C rfl dX5_user_26 ?_
        refine z_bipush (v := 16) C (by decide +kernel) dX5_user_28 ?_
        refine z_icmp_ge (tgt := 106) C dX5_user_30 (by decide) (fun h_30 => ?_) (fun h_30 => ?_)
        · have g_30 := cv_le (a := 16) (b := v) (by omega) (by omega) h_30
          exact absurd g_30 (by omega)
        · have g_30 := cv_nle (a := 16) (b := v) (by omega) (by omega) h_30
          by_cases hth : y 1 (16 * 0 + v) = 0
          · have ht0 : y 1 v = 0 := by rw [← hth]; congr 1; omega
            refine z_iconst (v := 0) C (by decide +kernel) dX5_user_33 ?_
            refine z_istore (ls' := [some (.ref (n0 + 113)), some (.int (nI k)), some (.int i), some (.int (nI (sumTo (mF y 0 (nI k)) v))), some (.int (nI v)), some (.int 0)]) C (by decide) rfl dX5_user_34 ?_
            refine z_iload C rfl dX5_user_36 ?_
            refine z_bipush (v := 40) C (by decide +kernel) dX5_user_38 ?_
            refine z_icmp_ge (tgt := 100) C dX5_user_40 (by decide) (fun h_40 => ?_) (fun h_40 => ?_)
            · exact absurd h_40 (by decide +kernel)
            · skip
              refine z_aload_n C rfl dX5_user_43 ?_
              refine gf_X5_51 (v := 0) C (by rw [hy]; exact up_self) dX5_user_44 ?_
              refine z_if_ne (tgt := 100) C dX5_user_47 (by decide) (fun h_47 => ?_) (fun h_47 => ?_)
              · exact absurd h_47 (by decide +kernel)
              · skip
                refine z_aload_n C rfl dX5_user_50 ?_
                refine gf_X5_7 C dX5_user_51 ?_
                refine z_iload C rfl dX5_user_54 ?_
                refine al_114 (v := y 1 v) C (v) rfl (by omega) rfl dX5_user_56 ?_
                refine z_if_eq (tgt := 100) C dX5_user_57 (by decide) (fun h_57 => ?_) (fun h_57 => ?_)
                · skip
                  refine z_iinc (v := nI (v + 1)) (ls' := [some (.ref (n0 + 113)), some (.int (nI k)), some (.int i), some (.int (nI (sumTo (mF y 0 (nI k)) v))), some (.int (nI (v + 1))), some (.int 0)]) C rfl (cv_inc v 1) (by decide) rfl dX5_user_100 ?_
                  refine z_goto (tgt := 26) C dX5_user_103 (by decide) ?_
                  exact z_cast (σ1 := (κ, y, o)) (ls' := [some (.ref (n0 + 113)), some (.int (nI k)), some (.int i), some (.int (nI (sumTo (mF y 0 (nI k)) (v + 1)))), some (.int (nI (v + 1))), none]) (st' := []) (ih_26) rfl ⟨rfl, rfl, rfl, (so_int (by simp [sumTo, mF, ht0])), rfl, trivial⟩ rfl
                · exact absurd ht0 h_57
          · have ht1 : ¬ y 1 v = 0 := fun q => hth (by rw [← q]; congr 1; omega)
            refine z_iconst (v := 0) C (by decide +kernel) dX5_user_33 ?_
            refine z_istore (ls' := [some (.ref (n0 + 113)), some (.int (nI k)), some (.int i), some (.int (nI (sumTo (mF y 0 (nI k)) v))), some (.int (nI v)), some (.int 0)]) C (by decide) rfl dX5_user_34 ?_
            refine z_cast (σ1 := (κ, y, o)) (ls' := [some (.ref (n0 + 113)), some (.int (nI k)), some (.int i), some (.int (nI (sumTo (mF y 0 (nI k)) v + sumTo (mG y 0 v (nI k)) 0))), some (.int (nI v)), some (.int (nI 0))]) (st' := []) (z_for (P := fun q => ZZ pp l ee (rmk 1 22) ss mm aa bb me cd D n0 127 6 0 0 Q (κ, y, o) 36 [some (.ref (n0 + 113)), some (.int (nI k)), some (.int i), some (.int (nI (sumTo (mF y 0 (nI k)) v + sumTo (mG y 0 v (nI k)) q))), some (.int (nI v)), some (.int (nI q))] []) (40) ?_ ?_ 0 (Nat.zero_le _)) rfl ⟨rfl, rfl, rfl, (so_int (by simp [sumTo])), rfl, rfl, trivial⟩ rfl
            · skip
              refine z_iload C rfl dX5_user_36 ?_
              refine z_bipush (v := 40) C (by decide +kernel) dX5_user_38 ?_
              refine z_icmp_ge (tgt := 100) C dX5_user_40 (by decide) (fun h_40 => ?_) (fun h_40 => ?_)
              · have g_40 := cv_le (a := 40) (b := 40) (by omega) (by omega) h_40
                refine z_iinc (v := nI (v + 1)) (ls' := [some (.ref (n0 + 113)), some (.int (nI k)), some (.int i), some (.int (nI (sumTo (mF y 0 (nI k)) v + sumTo (mG y 0 v (nI k)) 40))), some (.int (nI (v + 1))), some (.int (nI 40))]) C rfl (cv_inc v 1) (by decide) rfl dX5_user_100 ?_
                refine z_goto (tgt := 26) C dX5_user_103 (by decide) ?_
                exact z_cast (σ1 := (κ, y, o)) (ls' := [some (.ref (n0 + 113)), some (.int (nI k)), some (.int i), some (.int (nI (sumTo (mF y 0 (nI k)) (v + 1)))), some (.int (nI (v + 1))), none]) (st' := []) (ih_26) rfl ⟨rfl, rfl, rfl, (so_int (by simp [sumTo, mF, ht1])), rfl, trivial⟩ rfl
              · have g_40 := cv_nle (a := 40) (b := 40) (by omega) (by omega) h_40
                exact absurd g_40 (by omega)
            · intro q hi_36 ih_36
              refine z_iload C rfl dX5_user_36 ?_
              refine z_bipush (v := 40) C (by decide +kernel) dX5_user_38 ?_
              refine z_icmp_ge (tgt := 100) C dX5_user_40 (by decide) (fun h_40 => ?_) (fun h_40 => ?_)
              · have g_40 := cv_le (a := 40) (b := q) (by omega) (by omega) h_40
                exact absurd hi_36 (by omega)
              · have g_40 := cv_nle (a := 40) (b := q) (by omega) (by omega) h_40
                refine z_aload_n C rfl dX5_user_43 ?_
                refine gf_X5_51 (v := 0) C (by rw [hy]; exact up_self) dX5_user_44 ?_
                refine z_if_ne (tgt := 100) C dX5_user_47 (by decide) (fun h_47 => ?_) (fun h_47 => ?_)
                · exact absurd h_47 (by decide +kernel)
                · skip
                  refine z_aload_n C rfl dX5_user_50 ?_
                  refine gf_X5_7 C dX5_user_51 ?_
                  refine z_iload C rfl dX5_user_54 ?_
                  refine al_114 (v := y 1 v) C (v) rfl (by omega) rfl dX5_user_56 ?_
                  refine z_if_eq (tgt := 100) C dX5_user_57 (by decide) (fun h_57 => ?_) (fun h_57 => ?_)
                  · exact absurd h_57 ht1
                  · skip
                    refine z_aload_n C rfl dX5_user_60 ?_
                    refine gf_X5_26 C dX5_user_61 ?_
                    refine z_iconst (v := 0) C (by decide +kernel) dX5_user_64 ?_
                    refine z_iload C rfl dX5_user_65 ?_
                    refine z_iload C rfl dX5_user_67 ?_
                    refine z_callS (As := [.int 0, .int (nI v), .int (nI q)]) (r := (some (.int (nI (40 * v + q))))) (σ1 := (κ, y, o)) (st := [.ref (n0 + 119)]) (st1 := [.int (nI (40 * v + q)), .ref (n0 + 119)]) C K ok_X5_58 (c_X5_at0 l D n0 κ y o v q) rfl ⟨by decide, by decide⟩ ⟨Nat.zero_le _, Nat.zero_le _⟩ (by simp [Value.category]) dX5_user_69 rfl rfl ?_
                    refine al_119 (v := y 6 (40 * v + q)) C (40 * v + q) rfl (by omega) rfl dX5_user_72 ?_
                    refine z_iload_n C rfl dX5_user_73 ?_
                    refine z_icmp_ne (tgt := 94) C dX5_user_74 (by decide) (fun h_74 => ?_) (fun h_74 => ?_)
                    · skip
                      refine z_iinc (v := nI (q + 1)) (ls' := [some (.ref (n0 + 113)), some (.int (nI k)), some (.int i), some (.int (nI (sumTo (mF y 0 (nI k)) v + sumTo (mG y 0 v (nI k)) q))), some (.int (nI v)), some (.int (nI (q + 1)))]) C rfl (cv_inc q 1) (by decide) rfl dX5_user_94 ?_
                      refine z_goto (tgt := 36) C dX5_user_97 (by decide) ?_
                      exact z_cast (σ1 := (κ, y, o)) (ls' := [some (.ref (n0 + 113)), some (.int (nI k)), some (.int i), some (.int (nI (sumTo (mF y 0 (nI k)) v + sumTo (mG y 0 v (nI k)) (q + 1)))), some (.int (nI v)), some (.int (nI (q + 1)))]) (st' := []) (ih_36) rfl ⟨rfl, rfl, rfl, (so_int (by simp [sumTo, mG, h_74, Nat.add_assoc])), rfl, rfl, trivial⟩ rfl
                    · skip
                      refine z_iload_n C rfl dX5_user_77 ?_
                      refine z_iload_n C rfl dX5_user_78 ?_
                      refine z_icmp_ne (tgt := 91) C dX5_user_79 (by decide) (fun h_79 => ?_) (fun h_79 => ?_)
                      · skip
                        refine z_iinc (v := nI (sumTo (mF y 0 (nI k)) v + sumTo (mG y 0 v (nI k)) q + 1)) (ls' := [some (.ref (n0 + 113)), some (.int (nI k)), some (.int i), some (.int (nI (sumTo (mF y 0 (nI k)) v + sumTo (mG y 0 v (nI k)) q + 1))), some (.int (nI v)), some (.int (nI q))]) C rfl (cv_inc (sumTo (mF y 0 (nI k)) v + sumTo (mG y 0 v (nI k)) q) 1) (by decide) rfl dX5_user_91 ?_
                        refine z_iinc (v := nI (q + 1)) (ls' := [some (.ref (n0 + 113)), some (.int (nI k)), some (.int i), some (.int (nI (sumTo (mF y 0 (nI k)) v + sumTo (mG y 0 v (nI k)) q + 1))), some (.int (nI v)), some (.int (nI (q + 1)))]) C rfl (cv_inc q 1) (by decide) rfl dX5_user_94 ?_
                        refine z_goto (tgt := 36) C dX5_user_97 (by decide) ?_
                        exact z_cast (σ1 := (κ, y, o)) (ls' := [some (.ref (n0 + 113)), some (.int (nI k)), some (.int i), some (.int (nI (sumTo (mF y 0 (nI k)) v + sumTo (mG y 0 v (nI k)) (q + 1)))), some (.int (nI v)), some (.int (nI (q + 1)))]) (st' := []) (ih_36) rfl ⟨rfl, rfl, rfl, (so_int (by simp [sumTo, mG, h_74, Nat.add_assoc])), rfl, rfl, trivial⟩ rfl
                      · exact absurd h_79 (hno v q (Or.inl ⟨hi_26, hi_36⟩) ht1 h_74)
    · have g_10 := cv_nlt (a := k) (b := nE μ) (by omega) (by omega) h_10
      exact absurd g_10 (by omega)
set_option maxHeartbeats 4000000 in
set_option maxRecDepth 100000 in
theorem c_X5_volume_0 (l : Launch) (D : DD) (n0 : Nat) (κ μ : KH) (o : Int64) (j n : Nat) (hj : j < 16) (h1 : μ 1 j ≠ 0) (y : KH) (hy : y = up μ 0 0 0) (hn : y 0 23 = nI n) (hn8 : n ≤ 8) : HM l D n0 yX5_volume cX5_volume 8 (some .int) 3 68 [.ref (n0 + 113), .int (nI j), .int 0] (κ, μ, o) (some (.int (y 2 j))) (κ, y, o) := by
  refine HM.of (by decide) (by simp [Value.category]) (by simp) (Or.inr (Or.inl ⟨_, .int, rfl, rfl, rfl⟩)) ?_
  intro pp ee ss mm aa bb me cd Q C K hret
  show ZZ pp l ee (rmk 3 68) ss mm aa bb me cd D n0 127 8 0 0 Q _ 0 [some (.ref (n0 + 113)), some (.int (nI j)), some (.int 0), none, none, none, none, none] []
  refine z_aload_n C rfl dX5_volume_0 ?_
  refine z_aload_n C rfl dX5_volume_1 ?_
  refine z_iload_n C rfl dX5_volume_2 ?_
  refine z_callV (As := [.int (nI j)]) (r := (some (.int (b2i (!decide (μ 1 j = 0)))))) (σ1 := (κ, μ, o)) (st := [.ref (n0 + 113)]) (st1 := [.int (b2i (!decide (μ 1 j = 0))), .ref (n0 + 113)]) C K ok_X5_126 (c_X5_isVolume l D n0 κ μ o j (by omega)) enc_M (by decide) rfl rfl ⟨by decide, by decide⟩ ⟨Nat.zero_le _, Nat.zero_le _⟩ (by simp [Value.category]) dX5_volume_3 rfl rfl ?_
  refine z_if_eq (tgt := 19) C dX5_volume_6 (by decide) (fun h_6 => ?_) (fun h_6 => ?_)
  · have g_6 := cv_b0 h_6
    exact absurd g_6 (by simp [h1])
  · have g_6 := cv_b1 h_6
    refine z_iload_n C rfl dX5_volume_9 ?_
    refine z_if_lt (tgt := 19) C dX5_volume_10 (by decide) (fun h_10 => ?_) (fun h_10 => ?_)
    · exact absurd h_10 (by decide +kernel)
    · skip
      refine z_iload_n C rfl dX5_volume_13 ?_
      refine z_bipush (v := 7) C (by decide +kernel) dX5_volume_14 ?_
      refine z_icmp_le (tgt := 23) C dX5_volume_16 (by decide) (fun h_16 => ?_) (fun h_16 => ?_)
      · skip
        refine z_iconst (v := 0) C (by decide +kernel) dX5_volume_23 ?_
        refine pf_X5_51 (x := 0) C dX5_volume_24 ?_
        rw [← hy]
        refine z_aload_n C rfl dX5_volume_27 ?_
        refine gf_X5_51 (v := 0) C (by rw [hy]; exact up_self) dX5_volume_28 ?_
        refine z_if_le (tgt := 36) C dX5_volume_31 (by decide) (fun h_31 => ?_) (fun h_31 => ?_)
        · skip
          refine z_iconst (v := (-1)) C (by decide +kernel) dX5_volume_36 ?_
          refine z_istore_n (ls' := [some (.ref (n0 + 113)), some (.int (nI j)), some (.int 0), some (.int ((-1))), none, none, none, none]) C (by decide) rfl dX5_volume_37 ?_
          refine z_iconst (v := 0) C (by decide +kernel) dX5_volume_38 ?_
          refine z_istore (ls' := [some (.ref (n0 + 113)), some (.int (nI j)), some (.int 0), some (.int ((-1))), some (.int 0), none, none, none]) C (by decide) rfl dX5_volume_39 ?_
          refine z_iconst (v := 0) C (by decide +kernel) dX5_volume_41 ?_
          refine z_istore (ls' := [some (.ref (n0 + 113)), some (.int (nI j)), some (.int 0), some (.int ((-1))), some (.int 0), some (.int 0), none, none]) C (by decide) rfl dX5_volume_42 ?_
          refine z_iconst (v := 0) C (by decide +kernel) dX5_volume_44 ?_
          refine z_istore (ls' := [some (.ref (n0 + 113)), some (.int (nI j)), some (.int 0), some (.int ((-1))), some (.int 0), some (.int 0), some (.int 0), none]) C (by decide) rfl dX5_volume_45 ?_
          refine z_cast (σ1 := (κ, y, o)) (ls' := [some (.ref (n0 + 113)), some (.int (nI j)), some (.int 0), some (.int (mLast y j 0)), some (.int (nI (sumTo (mNs1 y j) 0))), some (.int 0), some (.int (nI 0)), none]) (st' := []) (z_for (P := fun p => ZZ pp l ee (rmk 3 68) ss mm aa bb me cd D n0 127 8 0 0 Q (κ, y, o) 47 [some (.ref (n0 + 113)), some (.int (nI j)), some (.int 0), some (.int (mLast y j p)), some (.int (nI (sumTo (mNs1 y j) p))), some (.int 0), some (.int (nI p)), none] []) (40) ?_ ?_ 0 (Nat.zero_le _)) rfl ⟨rfl, rfl, rfl, (so_int rfl), (so_int rfl), rfl, rfl, trivial⟩ rfl
          · skip
            refine z_iload C rfl dX5_volume_47 ?_
            refine z_bipush (v := 40) C (by decide +kernel) dX5_volume_49 ?_
            refine z_icmp_ge (tgt := 112) C dX5_volume_51 (by decide) (fun h_51 => ?_) (fun h_51 => ?_)
            · have g_51 := cv_le (a := 40) (b := 40) (by omega) (by omega) h_51
              refine z_iconst (v := 0) C (by decide +kernel) dX5_volume_112 ?_
              refine z_istore (ls' := [some (.ref (n0 + 113)), some (.int (nI j)), some (.int 0), some (.int (mLast y j 40)), some (.int (nI (sumTo (mNs1 y j) 40))), some (.int 0), some (.int 0), none]) C (by decide) rfl dX5_volume_113 ?_
              refine z_cast (σ1 := (κ, y, o)) (ls' := [some (.ref (n0 + 113)), some (.int (nI j)), some (.int 0), some (.int (mLast y j 40)), some (.int (nI (sumTo (mNs1 y j) 40))), some (.int (nI (sumTo (mQv1 y j) 0))), some (.int (nI 0)), none]) (st' := []) (z_for (P := fun i => ZZ pp l ee (rmk 3 68) ss mm aa bb me cd D n0 127 8 0 0 Q (κ, y, o) 115 [some (.ref (n0 + 113)), some (.int (nI j)), some (.int 0), some (.int (mLast y j 40)), some (.int (nI (sumTo (mNs1 y j) 40))), some (.int (nI (sumTo (mQv1 y j) i))), some (.int (nI i)), none] []) (n) ?_ ?_ 0 (Nat.zero_le _)) rfl ⟨rfl, rfl, rfl, rfl, rfl, (so_int rfl), rfl, trivial⟩ rfl
              · skip
                refine z_iload C rfl dX5_volume_115 ?_
                refine z_aload_n C rfl dX5_volume_117 ?_
                refine gf_X5_107 (v := nI n) C hn dX5_volume_118 ?_
                refine z_icmp_ge (tgt := 151) C dX5_volume_121 (by decide) (fun h_121 => ?_) (fun h_121 => ?_)
                · have g_121 := cv_le (a := n) (b := n) (by omega) (by omega) h_121
                  refine z_iload_n C rfl dX5_volume_151 ?_
                  refine z_if_ne (tgt := 164) C dX5_volume_152 (by decide) (fun h_152 => ?_) (fun h_152 => ?_)
                  · exact absurd h_152 (by decide +kernel)
                  · skip
                    refine z_aload_n C rfl dX5_volume_155 ?_
                    refine gf_X5_13 C dX5_volume_156 ?_
                    refine z_iload_n C rfl dX5_volume_159 ?_
                    refine al_115 (v := y 2 j) C (j) rfl (by omega) rfl dX5_volume_160 ?_
                    refine z_goto (tgt := 249) C dX5_volume_161 (by decide) ?_
                    exact z_endI (hret _ _ dX5_volume_249) rfl rfl
                · have g_121 := cv_nle (a := n) (b := n) (by omega) (by omega) h_121
                  exact absurd g_121 (by omega)
              · intro i hi_115 ih_115
                refine z_iload C rfl dX5_volume_115 ?_
                refine z_aload_n C rfl dX5_volume_117 ?_
                refine gf_X5_107 (v := nI n) C hn dX5_volume_118 ?_
                refine z_icmp_ge (tgt := 151) C dX5_volume_121 (by decide) (fun h_121 => ?_) (fun h_121 => ?_)
                · have g_121 := cv_le (a := n) (b := i) (by omega) (by omega) h_121
                  exact absurd hi_115 (by omega)
                · have g_121 := cv_nle (a := n) (b := i) (by omega) (by omega) h_121
                  refine z_iload C rfl dX5_volume_124 ?_
                  refine z_aload_n C rfl dX5_volume_126 ?_
                  refine gf_X5_42 C dX5_volume_127 ?_
                  refine z_iload C rfl dX5_volume_130 ?_
                  refine al_123 (v := y 10 i) C (i) rfl (by omega) rfl dX5_volume_132 ?_
                  refine z_iload_n C rfl dX5_volume_133 ?_
                  refine z_icmp_ne (tgt := 141) C dX5_volume_134 (by decide) (fun h_134 => ?_) (fun h_134 => ?_)
                  · skip
                    refine z_iconst (v := 0) C (by decide +kernel) dX5_volume_141 ?_
                    refine z_iadd (v := nI (sumTo (mQv1 y j) i + 0)) C (cv_add (sumTo (mQv1 y j) i) 0) dX5_volume_142 ?_
                    refine z_istore (ls' := [some (.ref (n0 + 113)), some (.int (nI j)), some (.int 0), some (.int (mLast y j 40)), some (.int (nI (sumTo (mNs1 y j) 40))), some (.int (nI (sumTo (mQv1 y j) i + 0))), some (.int (nI i)), none]) C (by decide) rfl dX5_volume_143 ?_
                    refine z_iinc (v := nI (i + 1)) (ls' := [some (.ref (n0 + 113)), some (.int (nI j)), some (.int 0), some (.int (mLast y j 40)), some (.int (nI (sumTo (mNs1 y j) 40))), some (.int (nI (sumTo (mQv1 y j) i + 0))), some (.int (nI (i + 1))), none]) C rfl (cv_inc i 1) (by decide) rfl dX5_volume_145 ?_
                    refine z_goto (tgt := 115) C dX5_volume_148 (by decide) ?_
                    exact z_cast (σ1 := (κ, y, o)) (ls' := [some (.ref (n0 + 113)), some (.int (nI j)), some (.int 0), some (.int (mLast y j 40)), some (.int (nI (sumTo (mNs1 y j) 40))), some (.int (nI (sumTo (mQv1 y j) (i + 1)))), some (.int (nI (i + 1))), none]) (st' := []) (ih_115) rfl ⟨rfl, rfl, rfl, rfl, rfl, (so_int (by simp [sumTo, mQv1, h_134])), rfl, trivial⟩ rfl
                  · skip
                    refine z_iconst (v := 1) C (by decide +kernel) dX5_volume_137 ?_
                    refine z_goto (tgt := 142) C dX5_volume_138 (by decide) ?_
                    refine z_iadd (v := nI (sumTo (mQv1 y j) i + 1)) C (cv_add (sumTo (mQv1 y j) i) 1) dX5_volume_142 ?_
                    refine z_istore (ls' := [some (.ref (n0 + 113)), some (.int (nI j)), some (.int 0), some (.int (mLast y j 40)), some (.int (nI (sumTo (mNs1 y j) 40))), some (.int (nI (sumTo (mQv1 y j) i + 1))), some (.int (nI i)), none]) C (by decide) rfl dX5_volume_143 ?_
                    refine z_iinc (v := nI (i + 1)) (ls' := [some (.ref (n0 + 113)), some (.int (nI j)), some (.int 0), some (.int (mLast y j 40)), some (.int (nI (sumTo (mNs1 y j) 40))), some (.int (nI (sumTo (mQv1 y j) i + 1))), some (.int (nI (i + 1))), none]) C rfl (cv_inc i 1) (by decide) rfl dX5_volume_145 ?_
                    refine z_goto (tgt := 115) C dX5_volume_148 (by decide) ?_
                    exact z_cast (σ1 := (κ, y, o)) (ls' := [some (.ref (n0 + 113)), some (.int (nI j)), some (.int 0), some (.int (mLast y j 40)), some (.int (nI (sumTo (mNs1 y j) 40))), some (.int (nI (sumTo (mQv1 y j) (i + 1)))), some (.int (nI (i + 1))), none]) (st' := []) (ih_115) rfl ⟨rfl, rfl, rfl, rfl, rfl, (so_int (by simp [sumTo, mQv1, h_134])), rfl, trivial⟩ rfl
            · have g_51 := cv_nle (a := 40) (b := 40) (by omega) (by omega) h_51
              exact absurd g_51 (by omega)
          · intro p hi_47 ih_47
            refine z_iload C rfl dX5_volume_47 ?_
            refine z_bipush (v := 40) C (by decide +kernel) dX5_volume_49 ?_
            refine z_icmp_ge (tgt := 112) C dX5_volume_51 (by decide) (fun h_51 => ?_) (fun h_51 => ?_)
            · have g_51 := cv_le (a := 40) (b := p) (by omega) (by omega) h_51
              exact absurd hi_47 (by omega)
            · have g_51 := cv_nle (a := 40) (b := p) (by omega) (by omega) h_51
              refine z_aload_n C rfl dX5_volume_54 ?_
              refine gf_X5_26 C dX5_volume_55 ?_
              refine z_iconst (v := 0) C (by decide +kernel) dX5_volume_58 ?_
              refine z_iload_n C rfl dX5_volume_59 ?_
              refine z_iload C rfl dX5_volume_60 ?_
              refine z_callS (As := [.int 0, .int (nI j), .int (nI p)]) (r := (some (.int (nI (40 * j + p))))) (σ1 := (κ, y, o)) (st := [.ref (n0 + 119)]) (st1 := [.int (nI (40 * j + p)), .ref (n0 + 119)]) C K ok_X5_58 (c_X5_at0 l D n0 κ y o j p) rfl ⟨by decide, by decide⟩ ⟨Nat.zero_le _, Nat.zero_le _⟩ (by simp [Value.category]) dX5_volume_62 rfl rfl ?_
              refine al_119 (v := y 6 (40 * j + p)) C (40 * j + p) rfl (by omega) rfl dX5_volume_65 ?_
              refine z_istore (ls' := [some (.ref (n0 + 113)), some (.int (nI j)), some (.int 0), some (.int (mLast y j p)), some (.int (nI (sumTo (mNs1 y j) p))), some (.int 0), some (.int (nI p)), some (.int (y 6 (40 * j + p)))]) C (by decide) rfl dX5_volume_66 ?_
              refine z_iload C rfl dX5_volume_68 ?_
              refine z_iconst (v := (-1)) C (by decide +kernel) dX5_volume_70 ?_
              refine z_icmp_eq (tgt := 79) C dX5_volume_71 (by decide) (fun h_71 => ?_) (fun h_71 => ?_)
              · skip
                refine z_iload_n C rfl dX5_volume_79 ?_
                refine z_istore_n (ls' := [some (.ref (n0 + 113)), some (.int (nI j)), some (.int 0), some (.int (mLast y j p)), some (.int (nI (sumTo (mNs1 y j) p))), some (.int 0), some (.int (nI p)), some (.int (y 6 (40 * j + p)))]) C (by decide) rfl dX5_volume_80 ?_
                refine z_iload C rfl dX5_volume_81 ?_
                refine z_iload C rfl dX5_volume_83 ?_
                refine z_iconst (v := (-1)) C (by decide +kernel) dX5_volume_85 ?_
                refine z_icmp_eq (tgt := 102) C dX5_volume_86 (by decide) (fun h_86 => ?_) (fun h_86 => ?_)
                · skip
                  refine z_iconst (v := 0) C (by decide +kernel) dX5_volume_102 ?_
                  refine z_iadd (v := nI (sumTo (mNs1 y j) p + 0)) C (cv_add (sumTo (mNs1 y j) p) 0) dX5_volume_103 ?_
                  refine z_istore (ls' := [some (.ref (n0 + 113)), some (.int (nI j)), some (.int 0), some (.int (mLast y j p)), some (.int (nI (sumTo (mNs1 y j) p + 0))), some (.int 0), some (.int (nI p)), some (.int (y 6 (40 * j + p)))]) C (by decide) rfl dX5_volume_104 ?_
                  refine z_iinc (v := nI (p + 1)) (ls' := [some (.ref (n0 + 113)), some (.int (nI j)), some (.int 0), some (.int (mLast y j p)), some (.int (nI (sumTo (mNs1 y j) p + 0))), some (.int 0), some (.int (nI (p + 1))), some (.int (y 6 (40 * j + p)))]) C rfl (cv_inc p 1) (by decide) rfl dX5_volume_106 ?_
                  refine z_goto (tgt := 47) C dX5_volume_109 (by decide) ?_
                  exact z_cast (σ1 := (κ, y, o)) (ls' := [some (.ref (n0 + 113)), some (.int (nI j)), some (.int 0), some (.int (mLast y j (p + 1))), some (.int (nI (sumTo (mNs1 y j) (p + 1)))), some (.int 0), some (.int (nI (p + 1))), none]) (st' := []) (ih_47) rfl ⟨rfl, rfl, rfl, (so_int (by simp [mLast, sumTo, mNs1, h_71])), (so_int (by simp [mLast, sumTo, mNs1, h_71])), rfl, rfl, trivial⟩ rfl
                · exact absurd h_71 h_86
              · skip
                refine z_iload C rfl dX5_volume_74 ?_
                refine z_goto (tgt := 80) C dX5_volume_76 (by decide) ?_
                refine z_istore_n (ls' := [some (.ref (n0 + 113)), some (.int (nI j)), some (.int 0), some (.int (nI p)), some (.int (nI (sumTo (mNs1 y j) p))), some (.int 0), some (.int (nI p)), some (.int (y 6 (40 * j + p)))]) C (by decide) rfl dX5_volume_80 ?_
                refine z_iload C rfl dX5_volume_81 ?_
                refine z_iload C rfl dX5_volume_83 ?_
                refine z_iconst (v := (-1)) C (by decide +kernel) dX5_volume_85 ?_
                refine z_icmp_eq (tgt := 102) C dX5_volume_86 (by decide) (fun h_86 => ?_) (fun h_86 => ?_)
                · exact absurd h_86 h_71
                · skip
                  refine z_aload_n C rfl dX5_volume_89 ?_
                  refine z_iload C rfl dX5_volume_90 ?_
                  refine z_callV (As := [.int (y 6 (40 * j + p))]) (r := (some (.int (b2i (mSole y (y 6 (40 * j + p))))))) (σ1 := (κ, y, o)) (st := [.int (nI (sumTo (mNs1 y j) p))]) (st1 := [.int (b2i (mSole y (y 6 (40 * j + p)))), .int (nI (sumTo (mNs1 y j) p))]) C K ok_X5_73 (c_X5_isSole l D n0 κ y o (y 6 (40 * j + p))) enc_M (by decide) rfl rfl ⟨by decide, by decide⟩ ⟨Nat.zero_le _, Nat.zero_le _⟩ (by simp [Value.category]) dX5_volume_92 rfl rfl ?_
                  refine z_if_ne (tgt := 102) C dX5_volume_95 (by decide) (fun h_95 => ?_) (fun h_95 => ?_)
                  · have g_95 := cv_b1 h_95
                    refine z_iconst (v := 0) C (by decide +kernel) dX5_volume_102 ?_
                    refine z_iadd (v := nI (sumTo (mNs1 y j) p + 0)) C (cv_add (sumTo (mNs1 y j) p) 0) dX5_volume_103 ?_
                    refine z_istore (ls' := [some (.ref (n0 + 113)), some (.int (nI j)), some (.int 0), some (.int (nI p)), some (.int (nI (sumTo (mNs1 y j) p + 0))), some (.int 0), some (.int (nI p)), some (.int (y 6 (40 * j + p)))]) C (by decide) rfl dX5_volume_104 ?_
                    refine z_iinc (v := nI (p + 1)) (ls' := [some (.ref (n0 + 113)), some (.int (nI j)), some (.int 0), some (.int (nI p)), some (.int (nI (sumTo (mNs1 y j) p + 0))), some (.int 0), some (.int (nI (p + 1))), some (.int (y 6 (40 * j + p)))]) C rfl (cv_inc p 1) (by decide) rfl dX5_volume_106 ?_
                    refine z_goto (tgt := 47) C dX5_volume_109 (by decide) ?_
                    exact z_cast (σ1 := (κ, y, o)) (ls' := [some (.ref (n0 + 113)), some (.int (nI j)), some (.int 0), some (.int (mLast y j (p + 1))), some (.int (nI (sumTo (mNs1 y j) (p + 1)))), some (.int 0), some (.int (nI (p + 1))), none]) (st' := []) (ih_47) rfl ⟨rfl, rfl, rfl, (so_int (by simp [mLast, sumTo, mNs1, h_71, g_95])), (so_int (by simp [mLast, sumTo, mNs1, h_71, g_95])), rfl, rfl, trivial⟩ rfl
                  · have g_95 := cv_b0 h_95
                    refine z_iconst (v := 1) C (by decide +kernel) dX5_volume_98 ?_
                    refine z_goto (tgt := 103) C dX5_volume_99 (by decide) ?_
                    refine z_iadd (v := nI (sumTo (mNs1 y j) p + 1)) C (cv_add (sumTo (mNs1 y j) p) 1) dX5_volume_103 ?_
                    refine z_istore (ls' := [some (.ref (n0 + 113)), some (.int (nI j)), some (.int 0), some (.int (nI p)), some (.int (nI (sumTo (mNs1 y j) p + 1))), some (.int 0), some (.int (nI p)), some (.int (y 6 (40 * j + p)))]) C (by decide) rfl dX5_volume_104 ?_
                    refine z_iinc (v := nI (p + 1)) (ls' := [some (.ref (n0 + 113)), some (.int (nI j)), some (.int 0), some (.int (nI p)), some (.int (nI (sumTo (mNs1 y j) p + 1))), some (.int 0), some (.int (nI (p + 1))), some (.int (y 6 (40 * j + p)))]) C rfl (cv_inc p 1) (by decide) rfl dX5_volume_106 ?_
                    refine z_goto (tgt := 47) C dX5_volume_109 (by decide) ?_
                    exact z_cast (σ1 := (κ, y, o)) (ls' := [some (.ref (n0 + 113)), some (.int (nI j)), some (.int 0), some (.int (mLast y j (p + 1))), some (.int (nI (sumTo (mNs1 y j) (p + 1)))), some (.int 0), some (.int (nI (p + 1))), none]) (st' := []) (ih_47) rfl ⟨rfl, rfl, rfl, (so_int (by simp [mLast, sumTo, mNs1, h_71, g_95])), (so_int (by simp [mLast, sumTo, mNs1, h_71, g_95])), rfl, rfl, trivial⟩ rfl
        · exact absurd h_31 (by decide +kernel)
      · exact absurd h_16 (by decide +kernel)
set_option maxHeartbeats 4000000 in
set_option maxRecDepth 100000 in
theorem c_X5_volume_1 (l : Launch) (D : DD) (n0 : Nat) (κ μ : KH) (o : Int64) (j n : Nat) (hj : j < 16) (h1 : μ 1 j ≠ 0) (y : KH) (hy : y = up μ 0 0 0) (hn : y 0 23 = nI n) (hn8 : n ≤ 8) : HM l D n0 yX5_volume cX5_volume 8 (some .int) 3 68 [.ref (n0 + 113), .int (nI j), .int 1] (κ, μ, o) (some (.int (nI (mMap y j)))) (κ, y, o) := by
  refine HM.of (by decide) (by simp [Value.category]) (by simp) (Or.inr (Or.inl ⟨_, .int, rfl, rfl, rfl⟩)) ?_
  intro pp ee ss mm aa bb me cd Q C K hret
  show ZZ pp l ee (rmk 3 68) ss mm aa bb me cd D n0 127 8 0 0 Q _ 0 [some (.ref (n0 + 113)), some (.int (nI j)), some (.int 1), none, none, none, none, none] []
  refine z_aload_n C rfl dX5_volume_0 ?_
  refine z_aload_n C rfl dX5_volume_1 ?_
  refine z_iload_n C rfl dX5_volume_2 ?_
  refine z_callV (As := [.int (nI j)]) (r := (some (.int (b2i (!decide (μ 1 j = 0)))))) (σ1 := (κ, μ, o)) (st := [.ref (n0 + 113)]) (st1 := [.int (b2i (!decide (μ 1 j = 0))), .ref (n0 + 113)]) C K ok_X5_126 (c_X5_isVolume l D n0 κ μ o j (by omega)) enc_M (by decide) rfl rfl ⟨by decide, by decide⟩ ⟨Nat.zero_le _, Nat.zero_le _⟩ (by simp [Value.category]) dX5_volume_3 rfl rfl ?_
  refine z_if_eq (tgt := 19) C dX5_volume_6 (by decide) (fun h_6 => ?_) (fun h_6 => ?_)
  · have g_6 := cv_b0 h_6
    exact absurd g_6 (by simp [h1])
  · have g_6 := cv_b1 h_6
    refine z_iload_n C rfl dX5_volume_9 ?_
    refine z_if_lt (tgt := 19) C dX5_volume_10 (by decide) (fun h_10 => ?_) (fun h_10 => ?_)
    · exact absurd h_10 (by decide +kernel)
    · skip
      refine z_iload_n C rfl dX5_volume_13 ?_
      refine z_bipush (v := 7) C (by decide +kernel) dX5_volume_14 ?_
      refine z_icmp_le (tgt := 23) C dX5_volume_16 (by decide) (fun h_16 => ?_) (fun h_16 => ?_)
      · skip
        refine z_iconst (v := 0) C (by decide +kernel) dX5_volume_23 ?_
        refine pf_X5_51 (x := 0) C dX5_volume_24 ?_
        rw [← hy]
        refine z_aload_n C rfl dX5_volume_27 ?_
        refine gf_X5_51 (v := 0) C (by rw [hy]; exact up_self) dX5_volume_28 ?_
        refine z_if_le (tgt := 36) C dX5_volume_31 (by decide) (fun h_31 => ?_) (fun h_31 => ?_)
        · skip
          refine z_iconst (v := (-1)) C (by decide +kernel) dX5_volume_36 ?_
          refine z_istore_n (ls' := [some (.ref (n0 + 113)), some (.int (nI j)), some (.int 1), some (.int ((-1))), none, none, none, none]) C (by decide) rfl dX5_volume_37 ?_
          refine z_iconst (v := 0) C (by decide +kernel) dX5_volume_38 ?_
          refine z_istore (ls' := [some (.ref (n0 + 113)), some (.int (nI j)), some (.int 1), some (.int ((-1))), some (.int 0), none, none, none]) C (by decide) rfl dX5_volume_39 ?_
          refine z_iconst (v := 0) C (by decide +kernel) dX5_volume_41 ?_
          refine z_istore (ls' := [some (.ref (n0 + 113)), some (.int (nI j)), some (.int 1), some (.int ((-1))), some (.int 0), some (.int 0), none, none]) C (by decide) rfl dX5_volume_42 ?_
          refine z_iconst (v := 0) C (by decide +kernel) dX5_volume_44 ?_
          refine z_istore (ls' := [some (.ref (n0 + 113)), some (.int (nI j)), some (.int 1), some (.int ((-1))), some (.int 0), some (.int 0), some (.int 0), none]) C (by decide) rfl dX5_volume_45 ?_
          refine z_cast (σ1 := (κ, y, o)) (ls' := [some (.ref (n0 + 113)), some (.int (nI j)), some (.int 1), some (.int (mLast y j 0)), some (.int (nI (sumTo (mNs1 y j) 0))), some (.int 0), some (.int (nI 0)), none]) (st' := []) (z_for (P := fun p => ZZ pp l ee (rmk 3 68) ss mm aa bb me cd D n0 127 8 0 0 Q (κ, y, o) 47 [some (.ref (n0 + 113)), some (.int (nI j)), some (.int 1), some (.int (mLast y j p)), some (.int (nI (sumTo (mNs1 y j) p))), some (.int 0), some (.int (nI p)), none] []) (40) ?_ ?_ 0 (Nat.zero_le _)) rfl ⟨rfl, rfl, rfl, (so_int rfl), (so_int rfl), rfl, rfl, trivial⟩ rfl
          · skip
            refine z_iload C rfl dX5_volume_47 ?_
            refine z_bipush (v := 40) C (by decide +kernel) dX5_volume_49 ?_
            refine z_icmp_ge (tgt := 112) C dX5_volume_51 (by decide) (fun h_51 => ?_) (fun h_51 => ?_)
            · have g_51 := cv_le (a := 40) (b := 40) (by omega) (by omega) h_51
              refine z_iconst (v := 0) C (by decide +kernel) dX5_volume_112 ?_
              refine z_istore (ls' := [some (.ref (n0 + 113)), some (.int (nI j)), some (.int 1), some (.int (mLast y j 40)), some (.int (nI (sumTo (mNs1 y j) 40))), some (.int 0), some (.int 0), none]) C (by decide) rfl dX5_volume_113 ?_
              refine z_cast (σ1 := (κ, y, o)) (ls' := [some (.ref (n0 + 113)), some (.int (nI j)), some (.int 1), some (.int (mLast y j 40)), some (.int (nI (sumTo (mNs1 y j) 40))), some (.int (nI (sumTo (mQv1 y j) 0))), some (.int (nI 0)), none]) (st' := []) (z_for (P := fun i => ZZ pp l ee (rmk 3 68) ss mm aa bb me cd D n0 127 8 0 0 Q (κ, y, o) 115 [some (.ref (n0 + 113)), some (.int (nI j)), some (.int 1), some (.int (mLast y j 40)), some (.int (nI (sumTo (mNs1 y j) 40))), some (.int (nI (sumTo (mQv1 y j) i))), some (.int (nI i)), none] []) (n) ?_ ?_ 0 (Nat.zero_le _)) rfl ⟨rfl, rfl, rfl, rfl, rfl, (so_int rfl), rfl, trivial⟩ rfl
              · skip
                refine z_iload C rfl dX5_volume_115 ?_
                refine z_aload_n C rfl dX5_volume_117 ?_
                refine gf_X5_107 (v := nI n) C hn dX5_volume_118 ?_
                refine z_icmp_ge (tgt := 151) C dX5_volume_121 (by decide) (fun h_121 => ?_) (fun h_121 => ?_)
                · have g_121 := cv_le (a := n) (b := n) (by omega) (by omega) h_121
                  refine z_iload_n C rfl dX5_volume_151 ?_
                  refine z_if_ne (tgt := 164) C dX5_volume_152 (by decide) (fun h_152 => ?_) (fun h_152 => ?_)
                  · skip
                    refine z_iload_n C rfl dX5_volume_164 ?_
                    refine z_iconst (v := 1) C (by decide +kernel) dX5_volume_165 ?_
                    refine z_icmp_ne (tgt := 177) C dX5_volume_166 (by decide) (fun h_166 => ?_) (fun h_166 => ?_)
                    · exact absurd h_166 (by decide +kernel)
                    · skip
                      refine z_aload_n C rfl dX5_volume_169 ?_
                      refine z_iload_n C rfl dX5_volume_170 ?_
                      refine z_callV (As := [.int (nI j)]) (r := (some (.int (nI (mMap y j))))) (σ1 := (κ, y, o)) (st := []) (st1 := [.int (nI (mMap y j))]) C K ok_X5_76 (c_X5_mapped l D n0 κ y o j (by omega)) enc_M (by decide) rfl rfl ⟨by decide, by decide⟩ ⟨Nat.zero_le _, Nat.zero_le _⟩ (by simp [Value.category]) dX5_volume_171 rfl rfl ?_
                      refine z_goto (tgt := 249) C dX5_volume_174 (by decide) ?_
                      exact z_endI (hret _ _ dX5_volume_249) rfl rfl
                  · exact absurd h_152 (by decide +kernel)
                · have g_121 := cv_nle (a := n) (b := n) (by omega) (by omega) h_121
                  exact absurd g_121 (by omega)
              · intro i hi_115 ih_115
                refine z_iload C rfl dX5_volume_115 ?_
                refine z_aload_n C rfl dX5_volume_117 ?_
                refine gf_X5_107 (v := nI n) C hn dX5_volume_118 ?_
                refine z_icmp_ge (tgt := 151) C dX5_volume_121 (by decide) (fun h_121 => ?_) (fun h_121 => ?_)
                · have g_121 := cv_le (a := n) (b := i) (by omega) (by omega) h_121
                  exact absurd hi_115 (by omega)
                · have g_121 := cv_nle (a := n) (b := i) (by omega) (by omega) h_121
                  refine z_iload C rfl dX5_volume_124 ?_
                  refine z_aload_n C rfl dX5_volume_126 ?_
                  refine gf_X5_42 C dX5_volume_127 ?_
                  refine z_iload C rfl dX5_volume_130 ?_
                  refine al_123 (v := y 10 i) C (i) rfl (by omega) rfl dX5_volume_132 ?_
                  refine z_iload_n C rfl dX5_volume_133 ?_
                  refine z_icmp_ne (tgt := 141) C dX5_volume_134 (by decide) (fun h_134 => ?_) (fun h_134 => ?_)
                  · skip
                    refine z_iconst (v := 0) C (by decide +kernel) dX5_volume_141 ?_
                    refine z_iadd (v := nI (sumTo (mQv1 y j) i + 0)) C (cv_add (sumTo (mQv1 y j) i) 0) dX5_volume_142 ?_
                    refine z_istore (ls' := [some (.ref (n0 + 113)), some (.int (nI j)), some (.int 1), some (.int (mLast y j 40)), some (.int (nI (sumTo (mNs1 y j) 40))), some (.int (nI (sumTo (mQv1 y j) i + 0))), some (.int (nI i)), none]) C (by decide) rfl dX5_volume_143 ?_
                    refine z_iinc (v := nI (i + 1)) (ls' := [some (.ref (n0 + 113)), some (.int (nI j)), some (.int 1), some (.int (mLast y j 40)), some (.int (nI (sumTo (mNs1 y j) 40))), some (.int (nI (sumTo (mQv1 y j) i + 0))), some (.int (nI (i + 1))), none]) C rfl (cv_inc i 1) (by decide) rfl dX5_volume_145 ?_
                    refine z_goto (tgt := 115) C dX5_volume_148 (by decide) ?_
                    exact z_cast (σ1 := (κ, y, o)) (ls' := [some (.ref (n0 + 113)), some (.int (nI j)), some (.int 1), some (.int (mLast y j 40)), some (.int (nI (sumTo (mNs1 y j) 40))), some (.int (nI (sumTo (mQv1 y j) (i + 1)))), some (.int (nI (i + 1))), none]) (st' := []) (ih_115) rfl ⟨rfl, rfl, rfl, rfl, rfl, (so_int (by simp [sumTo, mQv1, h_134])), rfl, trivial⟩ rfl
                  · skip
                    refine z_iconst (v := 1) C (by decide +kernel) dX5_volume_137 ?_
                    refine z_goto (tgt := 142) C dX5_volume_138 (by decide) ?_
                    refine z_iadd (v := nI (sumTo (mQv1 y j) i + 1)) C (cv_add (sumTo (mQv1 y j) i) 1) dX5_volume_142 ?_
                    refine z_istore (ls' := [some (.ref (n0 + 113)), some (.int (nI j)), some (.int 1), some (.int (mLast y j 40)), some (.int (nI (sumTo (mNs1 y j) 40))), some (.int (nI (sumTo (mQv1 y j) i + 1))), some (.int (nI i)), none]) C (by decide) rfl dX5_volume_143 ?_
                    refine z_iinc (v := nI (i + 1)) (ls' := [some (.ref (n0 + 113)), some (.int (nI j)), some (.int 1), some (.int (mLast y j 40)), some (.int (nI (sumTo (mNs1 y j) 40))), some (.int (nI (sumTo (mQv1 y j) i + 1))), some (.int (nI (i + 1))), none]) C rfl (cv_inc i 1) (by decide) rfl dX5_volume_145 ?_
                    refine z_goto (tgt := 115) C dX5_volume_148 (by decide) ?_
                    exact z_cast (σ1 := (κ, y, o)) (ls' := [some (.ref (n0 + 113)), some (.int (nI j)), some (.int 1), some (.int (mLast y j 40)), some (.int (nI (sumTo (mNs1 y j) 40))), some (.int (nI (sumTo (mQv1 y j) (i + 1)))), some (.int (nI (i + 1))), none]) (st' := []) (ih_115) rfl ⟨rfl, rfl, rfl, rfl, rfl, (so_int (by simp [sumTo, mQv1, h_134])), rfl, trivial⟩ rfl
            · have g_51 := cv_nle (a := 40) (b := 40) (by omega) (by omega) h_51
              exact absurd g_51 (by omega)
          · intro p hi_47 ih_47
            refine z_iload C rfl dX5_volume_47 ?_
            refine z_bipush (v := 40) C (by decide +kernel) dX5_volume_49 ?_
            refine z_icmp_ge (tgt := 112) C dX5_volume_51 (by decide) (fun h_51 => ?_) (fun h_51 => ?_)
            · have g_51 := cv_le (a := 40) (b := p) (by omega) (by omega) h_51
              exact absurd hi_47 (by omega)
            · have g_51 := cv_nle (a := 40) (b := p) (by omega) (by omega) h_51
              refine z_aload_n C rfl dX5_volume_54 ?_
              refine gf_X5_26 C dX5_volume_55 ?_
              refine z_iconst (v := 0) C (by decide +kernel) dX5_volume_58 ?_
              refine z_iload_n C rfl dX5_volume_59 ?_
              refine z_iload C rfl dX5_volume_60 ?_
              refine z_callS (As := [.int 0, .int (nI j), .int (nI p)]) (r := (some (.int (nI (40 * j + p))))) (σ1 := (κ, y, o)) (st := [.ref (n0 + 119)]) (st1 := [.int (nI (40 * j + p)), .ref (n0 + 119)]) C K ok_X5_58 (c_X5_at0 l D n0 κ y o j p) rfl ⟨by decide, by decide⟩ ⟨Nat.zero_le _, Nat.zero_le _⟩ (by simp [Value.category]) dX5_volume_62 rfl rfl ?_
              refine al_119 (v := y 6 (40 * j + p)) C (40 * j + p) rfl (by omega) rfl dX5_volume_65 ?_
              refine z_istore (ls' := [some (.ref (n0 + 113)), some (.int (nI j)), some (.int 1), some (.int (mLast y j p)), some (.int (nI (sumTo (mNs1 y j) p))), some (.int 0), some (.int (nI p)), some (.int (y 6 (40 * j + p)))]) C (by decide) rfl dX5_volume_66 ?_
              refine z_iload C rfl dX5_volume_68 ?_
              refine z_iconst (v := (-1)) C (by decide +kernel) dX5_volume_70 ?_
              refine z_icmp_eq (tgt := 79) C dX5_volume_71 (by decide) (fun h_71 => ?_) (fun h_71 => ?_)
              · skip
                refine z_iload_n C rfl dX5_volume_79 ?_
                refine z_istore_n (ls' := [some (.ref (n0 + 113)), some (.int (nI j)), some (.int 1), some (.int (mLast y j p)), some (.int (nI (sumTo (mNs1 y j) p))), some (.int 0), some (.int (nI p)), some (.int (y 6 (40 * j + p)))]) C (by decide) rfl dX5_volume_80 ?_
                refine z_iload C rfl dX5_volume_81 ?_
                refine z_iload C rfl dX5_volume_83 ?_
                refine z_iconst (v := (-1)) C (by decide +kernel) dX5_volume_85 ?_
                refine z_icmp_eq (tgt := 102) C dX5_volume_86 (by decide) (fun h_86 => ?_) (fun h_86 => ?_)
                · skip
                  refine z_iconst (v := 0) C (by decide +kernel) dX5_volume_102 ?_
                  refine z_iadd (v := nI (sumTo (mNs1 y j) p + 0)) C (cv_add (sumTo (mNs1 y j) p) 0) dX5_volume_103 ?_
                  refine z_istore (ls' := [some (.ref (n0 + 113)), some (.int (nI j)), some (.int 1), some (.int (mLast y j p)), some (.int (nI (sumTo (mNs1 y j) p + 0))), some (.int 0), some (.int (nI p)), some (.int (y 6 (40 * j + p)))]) C (by decide) rfl dX5_volume_104 ?_
                  refine z_iinc (v := nI (p + 1)) (ls' := [some (.ref (n0 + 113)), some (.int (nI j)), some (.int 1), some (.int (mLast y j p)), some (.int (nI (sumTo (mNs1 y j) p + 0))), some (.int 0), some (.int (nI (p + 1))), some (.int (y 6 (40 * j + p)))]) C rfl (cv_inc p 1) (by decide) rfl dX5_volume_106 ?_
                  refine z_goto (tgt := 47) C dX5_volume_109 (by decide) ?_
                  exact z_cast (σ1 := (κ, y, o)) (ls' := [some (.ref (n0 + 113)), some (.int (nI j)), some (.int 1), some (.int (mLast y j (p + 1))), some (.int (nI (sumTo (mNs1 y j) (p + 1)))), some (.int 0), some (.int (nI (p + 1))), none]) (st' := []) (ih_47) rfl ⟨rfl, rfl, rfl, (so_int (by simp [mLast, sumTo, mNs1, h_71])), (so_int (by simp [mLast, sumTo, mNs1, h_71])), rfl, rfl, trivial⟩ rfl
                · exact absurd h_71 h_86
              · skip
                refine z_iload C rfl dX5_volume_74 ?_
                refine z_goto (tgt := 80) C dX5_volume_76 (by decide) ?_
                refine z_istore_n (ls' := [some (.ref (n0 + 113)), some (.int (nI j)), some (.int 1), some (.int (nI p)), some (.int (nI (sumTo (mNs1 y j) p))), some (.int 0), some (.int (nI p)), some (.int (y 6 (40 * j + p)))]) C (by decide) rfl dX5_volume_80 ?_
                refine z_iload C rfl dX5_volume_81 ?_
                refine z_iload C rfl dX5_volume_83 ?_
                refine z_iconst (v := (-1)) C (by decide +kernel) dX5_volume_85 ?_
                refine z_icmp_eq (tgt := 102) C dX5_volume_86 (by decide) (fun h_86 => ?_) (fun h_86 => ?_)
                · exact absurd h_86 h_71
                · skip
                  refine z_aload_n C rfl dX5_volume_89 ?_
                  refine z_iload C rfl dX5_volume_90 ?_
                  refine z_callV (As := [.int (y 6 (40 * j + p))]) (r := (some (.int (b2i (mSole y (y 6 (40 * j + p))))))) (σ1 := (κ, y, o)) (st := [.int (nI (sumTo (mNs1 y j) p))]) (st1 := [.int (b2i (mSole y (y 6 (40 * j + p)))), .int (nI (sumTo (mNs1 y j) p))]) C K ok_X5_73 (c_X5_isSole l D n0 κ y o (y 6 (40 * j + p))) enc_M (by decide) rfl rfl ⟨by decide, by decide⟩ ⟨Nat.zero_le _, Nat.zero_le _⟩ (by simp [Value.category]) dX5_volume_92 rfl rfl ?_
                  refine z_if_ne (tgt := 102) C dX5_volume_95 (by decide) (fun h_95 => ?_) (fun h_95 => ?_)
                  · have g_95 := cv_b1 h_95
                    refine z_iconst (v := 0) C (by decide +kernel) dX5_volume_102 ?_
                    refine z_iadd (v := nI (sumTo (mNs1 y j) p + 0)) C (cv_add (sumTo (mNs1 y j) p) 0) dX5_volume_103 ?_
                    refine z_istore (ls' := [some (.ref (n0 + 113)), some (.int (nI j)), some (.int 1), some (.int (nI p)), some (.int (nI (sumTo (mNs1 y j) p + 0))), some (.int 0), some (.int (nI p)), some (.int (y 6 (40 * j + p)))]) C (by decide) rfl dX5_volume_104 ?_
                    refine z_iinc (v := nI (p + 1)) (ls' := [some (.ref (n0 + 113)), some (.int (nI j)), some (.int 1), some (.int (nI p)), some (.int (nI (sumTo (mNs1 y j) p + 0))), some (.int 0), some (.int (nI (p + 1))), some (.int (y 6 (40 * j + p)))]) C rfl (cv_inc p 1) (by decide) rfl dX5_volume_106 ?_
                    refine z_goto (tgt := 47) C dX5_volume_109 (by decide) ?_
                    exact z_cast (σ1 := (κ, y, o)) (ls' := [some (.ref (n0 + 113)), some (.int (nI j)), some (.int 1), some (.int (mLast y j (p + 1))), some (.int (nI (sumTo (mNs1 y j) (p + 1)))), some (.int 0), some (.int (nI (p + 1))), none]) (st' := []) (ih_47) rfl ⟨rfl, rfl, rfl, (so_int (by simp [mLast, sumTo, mNs1, h_71, g_95])), (so_int (by simp [mLast, sumTo, mNs1, h_71, g_95])), rfl, rfl, trivial⟩ rfl
                  · have g_95 := cv_b0 h_95
                    refine z_iconst (v := 1) C (by decide +kernel) dX5_volume_98 ?_
                    refine z_goto (tgt := 103) C dX5_volume_99 (by decide) ?_
                    refine z_iadd (v := nI (sumTo (mNs1 y j) p + 1)) C (cv_add (sumTo (mNs1 y j) p) 1) dX5_volume_103 ?_
                    refine z_istore (ls' := [some (.ref (n0 + 113)), some (.int (nI j)), some (.int 1), some (.int (nI p)), some (.int (nI (sumTo (mNs1 y j) p + 1))), some (.int 0), some (.int (nI p)), some (.int (y 6 (40 * j + p)))]) C (by decide) rfl dX5_volume_104 ?_
                    refine z_iinc (v := nI (p + 1)) (ls' := [some (.ref (n0 + 113)), some (.int (nI j)), some (.int 1), some (.int (nI p)), some (.int (nI (sumTo (mNs1 y j) p + 1))), some (.int 0), some (.int (nI (p + 1))), some (.int (y 6 (40 * j + p)))]) C rfl (cv_inc p 1) (by decide) rfl dX5_volume_106 ?_
                    refine z_goto (tgt := 47) C dX5_volume_109 (by decide) ?_
                    exact z_cast (σ1 := (κ, y, o)) (ls' := [some (.ref (n0 + 113)), some (.int (nI j)), some (.int 1), some (.int (mLast y j (p + 1))), some (.int (nI (sumTo (mNs1 y j) (p + 1)))), some (.int 0), some (.int (nI (p + 1))), none]) (st' := []) (ih_47) rfl ⟨rfl, rfl, rfl, (so_int (by simp [mLast, sumTo, mNs1, h_71, g_95])), (so_int (by simp [mLast, sumTo, mNs1, h_71, g_95])), rfl, rfl, trivial⟩ rfl
        · exact absurd h_31 (by decide +kernel)
      · exact absurd h_16 (by decide +kernel)
set_option maxHeartbeats 4000000 in
set_option maxRecDepth 100000 in
theorem c_X5_volume_2 (l : Launch) (D : DD) (n0 : Nat) (κ μ : KH) (o : Int64) (j n : Nat) (hj : j < 16) (h1 : μ 1 j ≠ 0) (y : KH) (hy : y = up μ 0 0 0) (hn : y 0 23 = nI n) (hn8 : n ≤ 8) : HM l D n0 yX5_volume cX5_volume 8 (some .int) 3 68 [.ref (n0 + 113), .int (nI j), .int 2] (κ, μ, o) (some (.int (mLast y j 40))) (κ, y, o) := by
  refine HM.of (by decide) (by simp [Value.category]) (by simp) (Or.inr (Or.inl ⟨_, .int, rfl, rfl, rfl⟩)) ?_
  intro pp ee ss mm aa bb me cd Q C K hret
  show ZZ pp l ee (rmk 3 68) ss mm aa bb me cd D n0 127 8 0 0 Q _ 0 [some (.ref (n0 + 113)), some (.int (nI j)), some (.int 2), none, none, none, none, none] []
  refine z_aload_n C rfl dX5_volume_0 ?_
  refine z_aload_n C rfl dX5_volume_1 ?_
  refine z_iload_n C rfl dX5_volume_2 ?_
  refine z_callV (As := [.int (nI j)]) (r := (some (.int (b2i (!decide (μ 1 j = 0)))))) (σ1 := (κ, μ, o)) (st := [.ref (n0 + 113)]) (st1 := [.int (b2i (!decide (μ 1 j = 0))), .ref (n0 + 113)]) C K ok_X5_126 (c_X5_isVolume l D n0 κ μ o j (by omega)) enc_M (by decide) rfl rfl ⟨by decide, by decide⟩ ⟨Nat.zero_le _, Nat.zero_le _⟩ (by simp [Value.category]) dX5_volume_3 rfl rfl ?_
  refine z_if_eq (tgt := 19) C dX5_volume_6 (by decide) (fun h_6 => ?_) (fun h_6 => ?_)
  · have g_6 := cv_b0 h_6
    exact absurd g_6 (by simp [h1])
  · have g_6 := cv_b1 h_6
    refine z_iload_n C rfl dX5_volume_9 ?_
    refine z_if_lt (tgt := 19) C dX5_volume_10 (by decide) (fun h_10 => ?_) (fun h_10 => ?_)
    · exact absurd h_10 (by decide +kernel)
    · skip
      refine z_iload_n C rfl dX5_volume_13 ?_
      refine z_bipush (v := 7) C (by decide +kernel) dX5_volume_14 ?_
      refine z_icmp_le (tgt := 23) C dX5_volume_16 (by decide) (fun h_16 => ?_) (fun h_16 => ?_)
      · skip
        refine z_iconst (v := 0) C (by decide +kernel) dX5_volume_23 ?_
        refine pf_X5_51 (x := 0) C dX5_volume_24 ?_
        rw [← hy]
        refine z_aload_n C rfl dX5_volume_27 ?_
        refine gf_X5_51 (v := 0) C (by rw [hy]; exact up_self) dX5_volume_28 ?_
        refine z_if_le (tgt := 36) C dX5_volume_31 (by decide) (fun h_31 => ?_) (fun h_31 => ?_)
        · skip
          refine z_iconst (v := (-1)) C (by decide +kernel) dX5_volume_36 ?_
          refine z_istore_n (ls' := [some (.ref (n0 + 113)), some (.int (nI j)), some (.int 2), some (.int ((-1))), none, none, none, none]) C (by decide) rfl dX5_volume_37 ?_
          refine z_iconst (v := 0) C (by decide +kernel) dX5_volume_38 ?_
          refine z_istore (ls' := [some (.ref (n0 + 113)), some (.int (nI j)), some (.int 2), some (.int ((-1))), some (.int 0), none, none, none]) C (by decide) rfl dX5_volume_39 ?_
          refine z_iconst (v := 0) C (by decide +kernel) dX5_volume_41 ?_
          refine z_istore (ls' := [some (.ref (n0 + 113)), some (.int (nI j)), some (.int 2), some (.int ((-1))), some (.int 0), some (.int 0), none, none]) C (by decide) rfl dX5_volume_42 ?_
          refine z_iconst (v := 0) C (by decide +kernel) dX5_volume_44 ?_
          refine z_istore (ls' := [some (.ref (n0 + 113)), some (.int (nI j)), some (.int 2), some (.int ((-1))), some (.int 0), some (.int 0), some (.int 0), none]) C (by decide) rfl dX5_volume_45 ?_
          refine z_cast (σ1 := (κ, y, o)) (ls' := [some (.ref (n0 + 113)), some (.int (nI j)), some (.int 2), some (.int (mLast y j 0)), some (.int (nI (sumTo (mNs1 y j) 0))), some (.int 0), some (.int (nI 0)), none]) (st' := []) (z_for (P := fun p => ZZ pp l ee (rmk 3 68) ss mm aa bb me cd D n0 127 8 0 0 Q (κ, y, o) 47 [some (.ref (n0 + 113)), some (.int (nI j)), some (.int 2), some (.int (mLast y j p)), some (.int (nI (sumTo (mNs1 y j) p))), some (.int 0), some (.int (nI p)), none] []) (40) ?_ ?_ 0 (Nat.zero_le _)) rfl ⟨rfl, rfl, rfl, (so_int rfl), (so_int rfl), rfl, rfl, trivial⟩ rfl
          · skip
            refine z_iload C rfl dX5_volume_47 ?_
            refine z_bipush (v := 40) C (by decide +kernel) dX5_volume_49 ?_
            refine z_icmp_ge (tgt := 112) C dX5_volume_51 (by decide) (fun h_51 => ?_) (fun h_51 => ?_)
            · have g_51 := cv_le (a := 40) (b := 40) (by omega) (by omega) h_51
              refine z_iconst (v := 0) C (by decide +kernel) dX5_volume_112 ?_
              refine z_istore (ls' := [some (.ref (n0 + 113)), some (.int (nI j)), some (.int 2), some (.int (mLast y j 40)), some (.int (nI (sumTo (mNs1 y j) 40))), some (.int 0), some (.int 0), none]) C (by decide) rfl dX5_volume_113 ?_
              refine z_cast (σ1 := (κ, y, o)) (ls' := [some (.ref (n0 + 113)), some (.int (nI j)), some (.int 2), some (.int (mLast y j 40)), some (.int (nI (sumTo (mNs1 y j) 40))), some (.int (nI (sumTo (mQv1 y j) 0))), some (.int (nI 0)), none]) (st' := []) (z_for (P := fun i => ZZ pp l ee (rmk 3 68) ss mm aa bb me cd D n0 127 8 0 0 Q (κ, y, o) 115 [some (.ref (n0 + 113)), some (.int (nI j)), some (.int 2), some (.int (mLast y j 40)), some (.int (nI (sumTo (mNs1 y j) 40))), some (.int (nI (sumTo (mQv1 y j) i))), some (.int (nI i)), none] []) (n) ?_ ?_ 0 (Nat.zero_le _)) rfl ⟨rfl, rfl, rfl, rfl, rfl, (so_int rfl), rfl, trivial⟩ rfl
              · skip
                refine z_iload C rfl dX5_volume_115 ?_
                refine z_aload_n C rfl dX5_volume_117 ?_
                refine gf_X5_107 (v := nI n) C hn dX5_volume_118 ?_
                refine z_icmp_ge (tgt := 151) C dX5_volume_121 (by decide) (fun h_121 => ?_) (fun h_121 => ?_)
                · have g_121 := cv_le (a := n) (b := n) (by omega) (by omega) h_121
                  refine z_iload_n C rfl dX5_volume_151 ?_
                  refine z_if_ne (tgt := 164) C dX5_volume_152 (by decide) (fun h_152 => ?_) (fun h_152 => ?_)
                  · skip
                    refine z_iload_n C rfl dX5_volume_164 ?_
                    refine z_iconst (v := 1) C (by decide +kernel) dX5_volume_165 ?_
                    refine z_icmp_ne (tgt := 177) C dX5_volume_166 (by decide) (fun h_166 => ?_) (fun h_166 => ?_)
                    · skip
                      refine z_iload_n C rfl dX5_volume_177 ?_
                      refine z_iconst (v := 2) C (by decide +kernel) dX5_volume_178 ?_
                      refine z_icmp_ne (tgt := 186) C dX5_volume_179 (by decide) (fun h_179 => ?_) (fun h_179 => ?_)
                      · exact absurd h_179 (by decide +kernel)
                      · skip
                        refine z_iload_n C rfl dX5_volume_182 ?_
                        refine z_goto (tgt := 249) C dX5_volume_183 (by decide) ?_
                        exact z_endI (hret _ _ dX5_volume_249) rfl rfl
                    · exact absurd h_166 (by decide +kernel)
                  · exact absurd h_152 (by decide +kernel)
                · have g_121 := cv_nle (a := n) (b := n) (by omega) (by omega) h_121
                  exact absurd g_121 (by omega)
              · intro i hi_115 ih_115
                refine z_iload C rfl dX5_volume_115 ?_
                refine z_aload_n C rfl dX5_volume_117 ?_
                refine gf_X5_107 (v := nI n) C hn dX5_volume_118 ?_
                refine z_icmp_ge (tgt := 151) C dX5_volume_121 (by decide) (fun h_121 => ?_) (fun h_121 => ?_)
                · have g_121 := cv_le (a := n) (b := i) (by omega) (by omega) h_121
                  exact absurd hi_115 (by omega)
                · have g_121 := cv_nle (a := n) (b := i) (by omega) (by omega) h_121
                  refine z_iload C rfl dX5_volume_124 ?_
                  refine z_aload_n C rfl dX5_volume_126 ?_
                  refine gf_X5_42 C dX5_volume_127 ?_
                  refine z_iload C rfl dX5_volume_130 ?_
                  refine al_123 (v := y 10 i) C (i) rfl (by omega) rfl dX5_volume_132 ?_
                  refine z_iload_n C rfl dX5_volume_133 ?_
                  refine z_icmp_ne (tgt := 141) C dX5_volume_134 (by decide) (fun h_134 => ?_) (fun h_134 => ?_)
                  · skip
                    refine z_iconst (v := 0) C (by decide +kernel) dX5_volume_141 ?_
                    refine z_iadd (v := nI (sumTo (mQv1 y j) i + 0)) C (cv_add (sumTo (mQv1 y j) i) 0) dX5_volume_142 ?_
                    refine z_istore (ls' := [some (.ref (n0 + 113)), some (.int (nI j)), some (.int 2), some (.int (mLast y j 40)), some (.int (nI (sumTo (mNs1 y j) 40))), some (.int (nI (sumTo (mQv1 y j) i + 0))), some (.int (nI i)), none]) C (by decide) rfl dX5_volume_143 ?_
                    refine z_iinc (v := nI (i + 1)) (ls' := [some (.ref (n0 + 113)), some (.int (nI j)), some (.int 2), some (.int (mLast y j 40)), some (.int (nI (sumTo (mNs1 y j) 40))), some (.int (nI (sumTo (mQv1 y j) i + 0))), some (.int (nI (i + 1))), none]) C rfl (cv_inc i 1) (by decide) rfl dX5_volume_145 ?_
                    refine z_goto (tgt := 115) C dX5_volume_148 (by decide) ?_
                    exact z_cast (σ1 := (κ, y, o)) (ls' := [some (.ref (n0 + 113)), some (.int (nI j)), some (.int 2), some (.int (mLast y j 40)), some (.int (nI (sumTo (mNs1 y j) 40))), some (.int (nI (sumTo (mQv1 y j) (i + 1)))), some (.int (nI (i + 1))), none]) (st' := []) (ih_115) rfl ⟨rfl, rfl, rfl, rfl, rfl, (so_int (by simp [sumTo, mQv1, h_134])), rfl, trivial⟩ rfl
                  · skip
                    refine z_iconst (v := 1) C (by decide +kernel) dX5_volume_137 ?_
                    refine z_goto (tgt := 142) C dX5_volume_138 (by decide) ?_
                    refine z_iadd (v := nI (sumTo (mQv1 y j) i + 1)) C (cv_add (sumTo (mQv1 y j) i) 1) dX5_volume_142 ?_
                    refine z_istore (ls' := [some (.ref (n0 + 113)), some (.int (nI j)), some (.int 2), some (.int (mLast y j 40)), some (.int (nI (sumTo (mNs1 y j) 40))), some (.int (nI (sumTo (mQv1 y j) i + 1))), some (.int (nI i)), none]) C (by decide) rfl dX5_volume_143 ?_
                    refine z_iinc (v := nI (i + 1)) (ls' := [some (.ref (n0 + 113)), some (.int (nI j)), some (.int 2), some (.int (mLast y j 40)), some (.int (nI (sumTo (mNs1 y j) 40))), some (.int (nI (sumTo (mQv1 y j) i + 1))), some (.int (nI (i + 1))), none]) C rfl (cv_inc i 1) (by decide) rfl dX5_volume_145 ?_
                    refine z_goto (tgt := 115) C dX5_volume_148 (by decide) ?_
                    exact z_cast (σ1 := (κ, y, o)) (ls' := [some (.ref (n0 + 113)), some (.int (nI j)), some (.int 2), some (.int (mLast y j 40)), some (.int (nI (sumTo (mNs1 y j) 40))), some (.int (nI (sumTo (mQv1 y j) (i + 1)))), some (.int (nI (i + 1))), none]) (st' := []) (ih_115) rfl ⟨rfl, rfl, rfl, rfl, rfl, (so_int (by simp [sumTo, mQv1, h_134])), rfl, trivial⟩ rfl
            · have g_51 := cv_nle (a := 40) (b := 40) (by omega) (by omega) h_51
              exact absurd g_51 (by omega)
          · intro p hi_47 ih_47
            refine z_iload C rfl dX5_volume_47 ?_
            refine z_bipush (v := 40) C (by decide +kernel) dX5_volume_49 ?_
            refine z_icmp_ge (tgt := 112) C dX5_volume_51 (by decide) (fun h_51 => ?_) (fun h_51 => ?_)
            · have g_51 := cv_le (a := 40) (b := p) (by omega) (by omega) h_51
              exact absurd hi_47 (by omega)
            · have g_51 := cv_nle (a := 40) (b := p) (by omega) (by omega) h_51
              refine z_aload_n C rfl dX5_volume_54 ?_
              refine gf_X5_26 C dX5_volume_55 ?_
              refine z_iconst (v := 0) C (by decide +kernel) dX5_volume_58 ?_
              refine z_iload_n C rfl dX5_volume_59 ?_
              refine z_iload C rfl dX5_volume_60 ?_
              refine z_callS (As := [.int 0, .int (nI j), .int (nI p)]) (r := (some (.int (nI (40 * j + p))))) (σ1 := (κ, y, o)) (st := [.ref (n0 + 119)]) (st1 := [.int (nI (40 * j + p)), .ref (n0 + 119)]) C K ok_X5_58 (c_X5_at0 l D n0 κ y o j p) rfl ⟨by decide, by decide⟩ ⟨Nat.zero_le _, Nat.zero_le _⟩ (by simp [Value.category]) dX5_volume_62 rfl rfl ?_
              refine al_119 (v := y 6 (40 * j + p)) C (40 * j + p) rfl (by omega) rfl dX5_volume_65 ?_
              refine z_istore (ls' := [some (.ref (n0 + 113)), some (.int (nI j)), some (.int 2), some (.int (mLast y j p)), some (.int (nI (sumTo (mNs1 y j) p))), some (.int 0), some (.int (nI p)), some (.int (y 6 (40 * j + p)))]) C (by decide) rfl dX5_volume_66 ?_
              refine z_iload C rfl dX5_volume_68 ?_
              refine z_iconst (v := (-1)) C (by decide +kernel) dX5_volume_70 ?_
              refine z_icmp_eq (tgt := 79) C dX5_volume_71 (by decide) (fun h_71 => ?_) (fun h_71 => ?_)
              · skip
                refine z_iload_n C rfl dX5_volume_79 ?_
                refine z_istore_n (ls' := [some (.ref (n0 + 113)), some (.int (nI j)), some (.int 2), some (.int (mLast y j p)), some (.int (nI (sumTo (mNs1 y j) p))), some (.int 0), some (.int (nI p)), some (.int (y 6 (40 * j + p)))]) C (by decide) rfl dX5_volume_80 ?_
                refine z_iload C rfl dX5_volume_81 ?_
                refine z_iload C rfl dX5_volume_83 ?_
                refine z_iconst (v := (-1)) C (by decide +kernel) dX5_volume_85 ?_
                refine z_icmp_eq (tgt := 102) C dX5_volume_86 (by decide) (fun h_86 => ?_) (fun h_86 => ?_)
                · skip
                  refine z_iconst (v := 0) C (by decide +kernel) dX5_volume_102 ?_
                  refine z_iadd (v := nI (sumTo (mNs1 y j) p + 0)) C (cv_add (sumTo (mNs1 y j) p) 0) dX5_volume_103 ?_
                  refine z_istore (ls' := [some (.ref (n0 + 113)), some (.int (nI j)), some (.int 2), some (.int (mLast y j p)), some (.int (nI (sumTo (mNs1 y j) p + 0))), some (.int 0), some (.int (nI p)), some (.int (y 6 (40 * j + p)))]) C (by decide) rfl dX5_volume_104 ?_
                  refine z_iinc (v := nI (p + 1)) (ls' := [some (.ref (n0 + 113)), some (.int (nI j)), some (.int 2), some (.int (mLast y j p)), some (.int (nI (sumTo (mNs1 y j) p + 0))), some (.int 0), some (.int (nI (p + 1))), some (.int (y 6 (40 * j + p)))]) C rfl (cv_inc p 1) (by decide) rfl dX5_volume_106 ?_
                  refine z_goto (tgt := 47) C dX5_volume_109 (by decide) ?_
                  exact z_cast (σ1 := (κ, y, o)) (ls' := [some (.ref (n0 + 113)), some (.int (nI j)), some (.int 2), some (.int (mLast y j (p + 1))), some (.int (nI (sumTo (mNs1 y j) (p + 1)))), some (.int 0), some (.int (nI (p + 1))), none]) (st' := []) (ih_47) rfl ⟨rfl, rfl, rfl, (so_int (by simp [mLast, sumTo, mNs1, h_71])), (so_int (by simp [mLast, sumTo, mNs1, h_71])), rfl, rfl, trivial⟩ rfl
                · exact absurd h_71 h_86
              · skip
                refine z_iload C rfl dX5_volume_74 ?_
                refine z_goto (tgt := 80) C dX5_volume_76 (by decide) ?_
                refine z_istore_n (ls' := [some (.ref (n0 + 113)), some (.int (nI j)), some (.int 2), some (.int (nI p)), some (.int (nI (sumTo (mNs1 y j) p))), some (.int 0), some (.int (nI p)), some (.int (y 6 (40 * j + p)))]) C (by decide) rfl dX5_volume_80 ?_
                refine z_iload C rfl dX5_volume_81 ?_
                refine z_iload C rfl dX5_volume_83 ?_
                refine z_iconst (v := (-1)) C (by decide +kernel) dX5_volume_85 ?_
                refine z_icmp_eq (tgt := 102) C dX5_volume_86 (by decide) (fun h_86 => ?_) (fun h_86 => ?_)
                · exact absurd h_86 h_71
                · skip
                  refine z_aload_n C rfl dX5_volume_89 ?_
                  refine z_iload C rfl dX5_volume_90 ?_
                  refine z_callV (As := [.int (y 6 (40 * j + p))]) (r := (some (.int (b2i (mSole y (y 6 (40 * j + p))))))) (σ1 := (κ, y, o)) (st := [.int (nI (sumTo (mNs1 y j) p))]) (st1 := [.int (b2i (mSole y (y 6 (40 * j + p)))), .int (nI (sumTo (mNs1 y j) p))]) C K ok_X5_73 (c_X5_isSole l D n0 κ y o (y 6 (40 * j + p))) enc_M (by decide) rfl rfl ⟨by decide, by decide⟩ ⟨Nat.zero_le _, Nat.zero_le _⟩ (by simp [Value.category]) dX5_volume_92 rfl rfl ?_
                  refine z_if_ne (tgt := 102) C dX5_volume_95 (by decide) (fun h_95 => ?_) (fun h_95 => ?_)
                  · have g_95 := cv_b1 h_95
                    refine z_iconst (v := 0) C (by decide +kernel) dX5_volume_102 ?_
                    refine z_iadd (v := nI (sumTo (mNs1 y j) p + 0)) C (cv_add (sumTo (mNs1 y j) p) 0) dX5_volume_103 ?_
                    refine z_istore (ls' := [some (.ref (n0 + 113)), some (.int (nI j)), some (.int 2), some (.int (nI p)), some (.int (nI (sumTo (mNs1 y j) p + 0))), some (.int 0), some (.int (nI p)), some (.int (y 6 (40 * j + p)))]) C (by decide) rfl dX5_volume_104 ?_
                    refine z_iinc (v := nI (p + 1)) (ls' := [some (.ref (n0 + 113)), some (.int (nI j)), some (.int 2), some (.int (nI p)), some (.int (nI (sumTo (mNs1 y j) p + 0))), some (.int 0), some (.int (nI (p + 1))), some (.int (y 6 (40 * j + p)))]) C rfl (cv_inc p 1) (by decide) rfl dX5_volume_106 ?_
                    refine z_goto (tgt := 47) C dX5_volume_109 (by decide) ?_
                    exact z_cast (σ1 := (κ, y, o)) (ls' := [some (.ref (n0 + 113)), some (.int (nI j)), some (.int 2), some (.int (mLast y j (p + 1))), some (.int (nI (sumTo (mNs1 y j) (p + 1)))), some (.int 0), some (.int (nI (p + 1))), none]) (st' := []) (ih_47) rfl ⟨rfl, rfl, rfl, (so_int (by simp [mLast, sumTo, mNs1, h_71, g_95])), (so_int (by simp [mLast, sumTo, mNs1, h_71, g_95])), rfl, rfl, trivial⟩ rfl
                  · have g_95 := cv_b0 h_95
                    refine z_iconst (v := 1) C (by decide +kernel) dX5_volume_98 ?_
                    refine z_goto (tgt := 103) C dX5_volume_99 (by decide) ?_
                    refine z_iadd (v := nI (sumTo (mNs1 y j) p + 1)) C (cv_add (sumTo (mNs1 y j) p) 1) dX5_volume_103 ?_
                    refine z_istore (ls' := [some (.ref (n0 + 113)), some (.int (nI j)), some (.int 2), some (.int (nI p)), some (.int (nI (sumTo (mNs1 y j) p + 1))), some (.int 0), some (.int (nI p)), some (.int (y 6 (40 * j + p)))]) C (by decide) rfl dX5_volume_104 ?_
                    refine z_iinc (v := nI (p + 1)) (ls' := [some (.ref (n0 + 113)), some (.int (nI j)), some (.int 2), some (.int (nI p)), some (.int (nI (sumTo (mNs1 y j) p + 1))), some (.int 0), some (.int (nI (p + 1))), some (.int (y 6 (40 * j + p)))]) C rfl (cv_inc p 1) (by decide) rfl dX5_volume_106 ?_
                    refine z_goto (tgt := 47) C dX5_volume_109 (by decide) ?_
                    exact z_cast (σ1 := (κ, y, o)) (ls' := [some (.ref (n0 + 113)), some (.int (nI j)), some (.int 2), some (.int (mLast y j (p + 1))), some (.int (nI (sumTo (mNs1 y j) (p + 1)))), some (.int 0), some (.int (nI (p + 1))), none]) (st' := []) (ih_47) rfl ⟨rfl, rfl, rfl, (so_int (by simp [mLast, sumTo, mNs1, h_71, g_95])), (so_int (by simp [mLast, sumTo, mNs1, h_71, g_95])), rfl, rfl, trivial⟩ rfl
        · exact absurd h_31 (by decide +kernel)
      · exact absurd h_16 (by decide +kernel)
set_option maxHeartbeats 4000000 in
set_option maxRecDepth 100000 in
theorem c_X5_volume_3 (l : Launch) (D : DD) (n0 : Nat) (κ μ : KH) (o : Int64) (j n : Nat) (hj : j < 16) (h1 : μ 1 j ≠ 0) (y : KH) (hy : y = up μ 0 0 0) (hn : y 0 23 = nI n) (hn8 : n ≤ 8) : HM l D n0 yX5_volume cX5_volume 8 (some .int) 3 68 [.ref (n0 + 113), .int (nI j), .int 3] (κ, μ, o) (some (.int (nI (sumTo (mNs1 y j) 40)))) (κ, y, o) := by
  refine HM.of (by decide) (by simp [Value.category]) (by simp) (Or.inr (Or.inl ⟨_, .int, rfl, rfl, rfl⟩)) ?_
  intro pp ee ss mm aa bb me cd Q C K hret
  show ZZ pp l ee (rmk 3 68) ss mm aa bb me cd D n0 127 8 0 0 Q _ 0 [some (.ref (n0 + 113)), some (.int (nI j)), some (.int 3), none, none, none, none, none] []
  refine z_aload_n C rfl dX5_volume_0 ?_
  refine z_aload_n C rfl dX5_volume_1 ?_
  refine z_iload_n C rfl dX5_volume_2 ?_
  refine z_callV (As := [.int (nI j)]) (r := (some (.int (b2i (!decide (μ 1 j = 0)))))) (σ1 := (κ, μ, o)) (st := [.ref (n0 + 113)]) (st1 := [.int (b2i (!decide (μ 1 j = 0))), .ref (n0 + 113)]) C K ok_X5_126 (c_X5_isVolume l D n0 κ μ o j (by omega)) enc_M (by decide) rfl rfl ⟨by decide, by decide⟩ ⟨Nat.zero_le _, Nat.zero_le _⟩ (by simp [Value.category]) dX5_volume_3 rfl rfl ?_
  refine z_if_eq (tgt := 19) C dX5_volume_6 (by decide) (fun h_6 => ?_) (fun h_6 => ?_)
  · have g_6 := cv_b0 h_6
    exact absurd g_6 (by simp [h1])
  · have g_6 := cv_b1 h_6
    refine z_iload_n C rfl dX5_volume_9 ?_
    refine z_if_lt (tgt := 19) C dX5_volume_10 (by decide) (fun h_10 => ?_) (fun h_10 => ?_)
    · exact absurd h_10 (by decide +kernel)
    · skip
      refine z_iload_n C rfl dX5_volume_13 ?_
      refine z_bipush (v := 7) C (by decide +kernel) dX5_volume_14 ?_
      refine z_icmp_le (tgt := 23) C dX5_volume_16 (by decide) (fun h_16 => ?_) (fun h_16 => ?_)
      · skip
        refine z_iconst (v := 0) C (by decide +kernel) dX5_volume_23 ?_
        refine pf_X5_51 (x := 0) C dX5_volume_24 ?_
        rw [← hy]
        refine z_aload_n C rfl dX5_volume_27 ?_
        refine gf_X5_51 (v := 0) C (by rw [hy]; exact up_self) dX5_volume_28 ?_
        refine z_if_le (tgt := 36) C dX5_volume_31 (by decide) (fun h_31 => ?_) (fun h_31 => ?_)
        · skip
          refine z_iconst (v := (-1)) C (by decide +kernel) dX5_volume_36 ?_
          refine z_istore_n (ls' := [some (.ref (n0 + 113)), some (.int (nI j)), some (.int 3), some (.int ((-1))), none, none, none, none]) C (by decide) rfl dX5_volume_37 ?_
          refine z_iconst (v := 0) C (by decide +kernel) dX5_volume_38 ?_
          refine z_istore (ls' := [some (.ref (n0 + 113)), some (.int (nI j)), some (.int 3), some (.int ((-1))), some (.int 0), none, none, none]) C (by decide) rfl dX5_volume_39 ?_
          refine z_iconst (v := 0) C (by decide +kernel) dX5_volume_41 ?_
          refine z_istore (ls' := [some (.ref (n0 + 113)), some (.int (nI j)), some (.int 3), some (.int ((-1))), some (.int 0), some (.int 0), none, none]) C (by decide) rfl dX5_volume_42 ?_
          refine z_iconst (v := 0) C (by decide +kernel) dX5_volume_44 ?_
          refine z_istore (ls' := [some (.ref (n0 + 113)), some (.int (nI j)), some (.int 3), some (.int ((-1))), some (.int 0), some (.int 0), some (.int 0), none]) C (by decide) rfl dX5_volume_45 ?_
          refine z_cast (σ1 := (κ, y, o)) (ls' := [some (.ref (n0 + 113)), some (.int (nI j)), some (.int 3), some (.int (mLast y j 0)), some (.int (nI (sumTo (mNs1 y j) 0))), some (.int 0), some (.int (nI 0)), none]) (st' := []) (z_for (P := fun p => ZZ pp l ee (rmk 3 68) ss mm aa bb me cd D n0 127 8 0 0 Q (κ, y, o) 47 [some (.ref (n0 + 113)), some (.int (nI j)), some (.int 3), some (.int (mLast y j p)), some (.int (nI (sumTo (mNs1 y j) p))), some (.int 0), some (.int (nI p)), none] []) (40) ?_ ?_ 0 (Nat.zero_le _)) rfl ⟨rfl, rfl, rfl, (so_int rfl), (so_int rfl), rfl, rfl, trivial⟩ rfl
          · skip
            refine z_iload C rfl dX5_volume_47 ?_
            refine z_bipush (v := 40) C (by decide +kernel) dX5_volume_49 ?_
            refine z_icmp_ge (tgt := 112) C dX5_volume_51 (by decide) (fun h_51 => ?_) (fun h_51 => ?_)
            · have g_51 := cv_le (a := 40) (b := 40) (by omega) (by omega) h_51
              refine z_iconst (v := 0) C (by decide +kernel) dX5_volume_112 ?_
              refine z_istore (ls' := [some (.ref (n0 + 113)), some (.int (nI j)), some (.int 3), some (.int (mLast y j 40)), some (.int (nI (sumTo (mNs1 y j) 40))), some (.int 0), some (.int 0), none]) C (by decide) rfl dX5_volume_113 ?_
              refine z_cast (σ1 := (κ, y, o)) (ls' := [some (.ref (n0 + 113)), some (.int (nI j)), some (.int 3), some (.int (mLast y j 40)), some (.int (nI (sumTo (mNs1 y j) 40))), some (.int (nI (sumTo (mQv1 y j) 0))), some (.int (nI 0)), none]) (st' := []) (z_for (P := fun i => ZZ pp l ee (rmk 3 68) ss mm aa bb me cd D n0 127 8 0 0 Q (κ, y, o) 115 [some (.ref (n0 + 113)), some (.int (nI j)), some (.int 3), some (.int (mLast y j 40)), some (.int (nI (sumTo (mNs1 y j) 40))), some (.int (nI (sumTo (mQv1 y j) i))), some (.int (nI i)), none] []) (n) ?_ ?_ 0 (Nat.zero_le _)) rfl ⟨rfl, rfl, rfl, rfl, rfl, (so_int rfl), rfl, trivial⟩ rfl
              · skip
                refine z_iload C rfl dX5_volume_115 ?_
                refine z_aload_n C rfl dX5_volume_117 ?_
                refine gf_X5_107 (v := nI n) C hn dX5_volume_118 ?_
                refine z_icmp_ge (tgt := 151) C dX5_volume_121 (by decide) (fun h_121 => ?_) (fun h_121 => ?_)
                · have g_121 := cv_le (a := n) (b := n) (by omega) (by omega) h_121
                  refine z_iload_n C rfl dX5_volume_151 ?_
                  refine z_if_ne (tgt := 164) C dX5_volume_152 (by decide) (fun h_152 => ?_) (fun h_152 => ?_)
                  · skip
                    refine z_iload_n C rfl dX5_volume_164 ?_
                    refine z_iconst (v := 1) C (by decide +kernel) dX5_volume_165 ?_
                    refine z_icmp_ne (tgt := 177) C dX5_volume_166 (by decide) (fun h_166 => ?_) (fun h_166 => ?_)
                    · skip
                      refine z_iload_n C rfl dX5_volume_177 ?_
                      refine z_iconst (v := 2) C (by decide +kernel) dX5_volume_178 ?_
                      refine z_icmp_ne (tgt := 186) C dX5_volume_179 (by decide) (fun h_179 => ?_) (fun h_179 => ?_)
                      · skip
                        refine z_iload_n C rfl dX5_volume_186 ?_
                        refine z_iconst (v := 3) C (by decide +kernel) dX5_volume_187 ?_
                        refine z_icmp_ne (tgt := 196) C dX5_volume_188 (by decide) (fun h_188 => ?_) (fun h_188 => ?_)
                        · exact absurd h_188 (by decide +kernel)
                        · skip
                          refine z_iload C rfl dX5_volume_191 ?_
                          refine z_goto (tgt := 249) C dX5_volume_193 (by decide) ?_
                          exact z_endI (hret _ _ dX5_volume_249) rfl rfl
                      · exact absurd h_179 (by decide +kernel)
                    · exact absurd h_166 (by decide +kernel)
                  · exact absurd h_152 (by decide +kernel)
                · have g_121 := cv_nle (a := n) (b := n) (by omega) (by omega) h_121
                  exact absurd g_121 (by omega)
              · intro i hi_115 ih_115
                refine z_iload C rfl dX5_volume_115 ?_
                refine z_aload_n C rfl dX5_volume_117 ?_
                refine gf_X5_107 (v := nI n) C hn dX5_volume_118 ?_
                refine z_icmp_ge (tgt := 151) C dX5_volume_121 (by decide) (fun h_121 => ?_) (fun h_121 => ?_)
                · have g_121 := cv_le (a := n) (b := i) (by omega) (by omega) h_121
                  exact absurd hi_115 (by omega)
                · have g_121 := cv_nle (a := n) (b := i) (by omega) (by omega) h_121
                  refine z_iload C rfl dX5_volume_124 ?_
                  refine z_aload_n C rfl dX5_volume_126 ?_
                  refine gf_X5_42 C dX5_volume_127 ?_
                  refine z_iload C rfl dX5_volume_130 ?_
                  refine al_123 (v := y 10 i) C (i) rfl (by omega) rfl dX5_volume_132 ?_
                  refine z_iload_n C rfl dX5_volume_133 ?_
                  refine z_icmp_ne (tgt := 141) C dX5_volume_134 (by decide) (fun h_134 => ?_) (fun h_134 => ?_)
                  · skip
                    refine z_iconst (v := 0) C (by decide +kernel) dX5_volume_141 ?_
                    refine z_iadd (v := nI (sumTo (mQv1 y j) i + 0)) C (cv_add (sumTo (mQv1 y j) i) 0) dX5_volume_142 ?_
                    refine z_istore (ls' := [some (.ref (n0 + 113)), some (.int (nI j)), some (.int 3), some (.int (mLast y j 40)), some (.int (nI (sumTo (mNs1 y j) 40))), some (.int (nI (sumTo (mQv1 y j) i + 0))), some (.int (nI i)), none]) C (by decide) rfl dX5_volume_143 ?_
                    refine z_iinc (v := nI (i + 1)) (ls' := [some (.ref (n0 + 113)), some (.int (nI j)), some (.int 3), some (.int (mLast y j 40)), some (.int (nI (sumTo (mNs1 y j) 40))), some (.int (nI (sumTo (mQv1 y j) i + 0))), some (.int (nI (i + 1))), none]) C rfl (cv_inc i 1) (by decide) rfl dX5_volume_145 ?_
                    refine z_goto (tgt := 115) C dX5_volume_148 (by decide) ?_
                    exact z_cast (σ1 := (κ, y, o)) (ls' := [some (.ref (n0 + 113)), some (.int (nI j)), some (.int 3), some (.int (mLast y j 40)), some (.int (nI (sumTo (mNs1 y j) 40))), some (.int (nI (sumTo (mQv1 y j) (i + 1)))), some (.int (nI (i + 1))), none]) (st' := []) (ih_115) rfl ⟨rfl, rfl, rfl, rfl, rfl, (so_int (by simp [sumTo, mQv1, h_134])), rfl, trivial⟩ rfl
                  · skip
                    refine z_iconst (v := 1) C (by decide +kernel) dX5_volume_137 ?_
                    refine z_goto (tgt := 142) C dX5_volume_138 (by decide) ?_
                    refine z_iadd (v := nI (sumTo (mQv1 y j) i + 1)) C (cv_add (sumTo (mQv1 y j) i) 1) dX5_volume_142 ?_
                    refine z_istore (ls' := [some (.ref (n0 + 113)), some (.int (nI j)), some (.int 3), some (.int (mLast y j 40)), some (.int (nI (sumTo (mNs1 y j) 40))), some (.int (nI (sumTo (mQv1 y j) i + 1))), some (.int (nI i)), none]) C (by decide) rfl dX5_volume_143 ?_
                    refine z_iinc (v := nI (i + 1)) (ls' := [some (.ref (n0 + 113)), some (.int (nI j)), some (.int 3), some (.int (mLast y j 40)), some (.int (nI (sumTo (mNs1 y j) 40))), some (.int (nI (sumTo (mQv1 y j) i + 1))), some (.int (nI (i + 1))), none]) C rfl (cv_inc i 1) (by decide) rfl dX5_volume_145 ?_
                    refine z_goto (tgt := 115) C dX5_volume_148 (by decide) ?_
                    exact z_cast (σ1 := (κ, y, o)) (ls' := [some (.ref (n0 + 113)), some (.int (nI j)), some (.int 3), some (.int (mLast y j 40)), some (.int (nI (sumTo (mNs1 y j) 40))), some (.int (nI (sumTo (mQv1 y j) (i + 1)))), some (.int (nI (i + 1))), none]) (st' := []) (ih_115) rfl ⟨rfl, rfl, rfl, rfl, rfl, (so_int (by simp [sumTo, mQv1, h_134])), rfl, trivial⟩ rfl
            · have g_51 := cv_nle (a := 40) (b := 40) (by omega) (by omega) h_51
              exact absurd g_51 (by omega)
          · intro p hi_47 ih_47
            refine z_iload C rfl dX5_volume_47 ?_
            refine z_bipush (v := 40) C (by decide +kernel) dX5_volume_49 ?_
            refine z_icmp_ge (tgt := 112) C dX5_volume_51 (by decide) (fun h_51 => ?_) (fun h_51 => ?_)
            · have g_51 := cv_le (a := 40) (b := p) (by omega) (by omega) h_51
              exact absurd hi_47 (by omega)
            · have g_51 := cv_nle (a := 40) (b := p) (by omega) (by omega) h_51
              refine z_aload_n C rfl dX5_volume_54 ?_
              refine gf_X5_26 C dX5_volume_55 ?_
              refine z_iconst (v := 0) C (by decide +kernel) dX5_volume_58 ?_
              refine z_iload_n C rfl dX5_volume_59 ?_
              refine z_iload C rfl dX5_volume_60 ?_
              refine z_callS (As := [.int 0, .int (nI j), .int (nI p)]) (r := (some (.int (nI (40 * j + p))))) (σ1 := (κ, y, o)) (st := [.ref (n0 + 119)]) (st1 := [.int (nI (40 * j + p)), .ref (n0 + 119)]) C K ok_X5_58 (c_X5_at0 l D n0 κ y o j p) rfl ⟨by decide, by decide⟩ ⟨Nat.zero_le _, Nat.zero_le _⟩ (by simp [Value.category]) dX5_volume_62 rfl rfl ?_
              refine al_119 (v := y 6 (40 * j + p)) C (40 * j + p) rfl (by omega) rfl dX5_volume_65 ?_
              refine z_istore (ls' := [some (.ref (n0 + 113)), some (.int (nI j)), some (.int 3), some (.int (mLast y j p)), some (.int (nI (sumTo (mNs1 y j) p))), some (.int 0), some (.int (nI p)), some (.int (y 6 (40 * j + p)))]) C (by decide) rfl dX5_volume_66 ?_
              refine z_iload C rfl dX5_volume_68 ?_
              refine z_iconst (v := (-1)) C (by decide +kernel) dX5_volume_70 ?_
              refine z_icmp_eq (tgt := 79) C dX5_volume_71 (by decide) (fun h_71 => ?_) (fun h_71 => ?_)
              · skip
                refine z_iload_n C rfl dX5_volume_79 ?_
                refine z_istore_n (ls' := [some (.ref (n0 + 113)), some (.int (nI j)), some (.int 3), some (.int (mLast y j p)), some (.int (nI (sumTo (mNs1 y j) p))), some (.int 0), some (.int (nI p)), some (.int (y 6 (40 * j + p)))]) C (by decide) rfl dX5_volume_80 ?_
                refine z_iload C rfl dX5_volume_81 ?_
                refine z_iload C rfl dX5_volume_83 ?_
                refine z_iconst (v := (-1)) C (by decide +kernel) dX5_volume_85 ?_
                refine z_icmp_eq (tgt := 102) C dX5_volume_86 (by decide) (fun h_86 => ?_) (fun h_86 => ?_)
                · skip
                  refine z_iconst (v := 0) C (by decide +kernel) dX5_volume_102 ?_
                  refine z_iadd (v := nI (sumTo (mNs1 y j) p + 0)) C (cv_add (sumTo (mNs1 y j) p) 0) dX5_volume_103 ?_
                  refine z_istore (ls' := [some (.ref (n0 + 113)), some (.int (nI j)), some (.int 3), some (.int (mLast y j p)), some (.int (nI (sumTo (mNs1 y j) p + 0))), some (.int 0), some (.int (nI p)), some (.int (y 6 (40 * j + p)))]) C (by decide) rfl dX5_volume_104 ?_
                  refine z_iinc (v := nI (p + 1)) (ls' := [some (.ref (n0 + 113)), some (.int (nI j)), some (.int 3), some (.int (mLast y j p)), some (.int (nI (sumTo (mNs1 y j) p + 0))), some (.int 0), some (.int (nI (p + 1))), some (.int (y 6 (40 * j + p)))]) C rfl (cv_inc p 1) (by decide) rfl dX5_volume_106 ?_
                  refine z_goto (tgt := 47) C dX5_volume_109 (by decide) ?_
                  exact z_cast (σ1 := (κ, y, o)) (ls' := [some (.ref (n0 + 113)), some (.int (nI j)), some (.int 3), some (.int (mLast y j (p + 1))), some (.int (nI (sumTo (mNs1 y j) (p + 1)))), some (.int 0), some (.int (nI (p + 1))), none]) (st' := []) (ih_47) rfl ⟨rfl, rfl, rfl, (so_int (by simp [mLast, sumTo, mNs1, h_71])), (so_int (by simp [mLast, sumTo, mNs1, h_71])), rfl, rfl, trivial⟩ rfl
                · exact absurd h_71 h_86
              · skip
                refine z_iload C rfl dX5_volume_74 ?_
                refine z_goto (tgt := 80) C dX5_volume_76 (by decide) ?_
                refine z_istore_n (ls' := [some (.ref (n0 + 113)), some (.int (nI j)), some (.int 3), some (.int (nI p)), some (.int (nI (sumTo (mNs1 y j) p))), some (.int 0), some (.int (nI p)), some (.int (y 6 (40 * j + p)))]) C (by decide) rfl dX5_volume_80 ?_
                refine z_iload C rfl dX5_volume_81 ?_
                refine z_iload C rfl dX5_volume_83 ?_
                refine z_iconst (v := (-1)) C (by decide +kernel) dX5_volume_85 ?_
                refine z_icmp_eq (tgt := 102) C dX5_volume_86 (by decide) (fun h_86 => ?_) (fun h_86 => ?_)
                · exact absurd h_86 h_71
                · skip
                  refine z_aload_n C rfl dX5_volume_89 ?_
                  refine z_iload C rfl dX5_volume_90 ?_
                  refine z_callV (As := [.int (y 6 (40 * j + p))]) (r := (some (.int (b2i (mSole y (y 6 (40 * j + p))))))) (σ1 := (κ, y, o)) (st := [.int (nI (sumTo (mNs1 y j) p))]) (st1 := [.int (b2i (mSole y (y 6 (40 * j + p)))), .int (nI (sumTo (mNs1 y j) p))]) C K ok_X5_73 (c_X5_isSole l D n0 κ y o (y 6 (40 * j + p))) enc_M (by decide) rfl rfl ⟨by decide, by decide⟩ ⟨Nat.zero_le _, Nat.zero_le _⟩ (by simp [Value.category]) dX5_volume_92 rfl rfl ?_
                  refine z_if_ne (tgt := 102) C dX5_volume_95 (by decide) (fun h_95 => ?_) (fun h_95 => ?_)
                  · have g_95 := cv_b1 h_95
                    refine z_iconst (v := 0) C (by decide +kernel) dX5_volume_102 ?_
                    refine z_iadd (v := nI (sumTo (mNs1 y j) p + 0)) C (cv_add (sumTo (mNs1 y j) p) 0) dX5_volume_103 ?_
                    refine z_istore (ls' := [some (.ref (n0 + 113)), some (.int (nI j)), some (.int 3), some (.int (nI p)), some (.int (nI (sumTo (mNs1 y j) p + 0))), some (.int 0), some (.int (nI p)), some (.int (y 6 (40 * j + p)))]) C (by decide) rfl dX5_volume_104 ?_
                    refine z_iinc (v := nI (p + 1)) (ls' := [some (.ref (n0 + 113)), some (.int (nI j)), some (.int 3), some (.int (nI p)), some (.int (nI (sumTo (mNs1 y j) p + 0))), some (.int 0), some (.int (nI (p + 1))), some (.int (y 6 (40 * j + p)))]) C rfl (cv_inc p 1) (by decide) rfl dX5_volume_106 ?_
                    refine z_goto (tgt := 47) C dX5_volume_109 (by decide) ?_
                    exact z_cast (σ1 := (κ, y, o)) (ls' := [some (.ref (n0 + 113)), some (.int (nI j)), some (.int 3), some (.int (mLast y j (p + 1))), some (.int (nI (sumTo (mNs1 y j) (p + 1)))), some (.int 0), some (.int (nI (p + 1))), none]) (st' := []) (ih_47) rfl ⟨rfl, rfl, rfl, (so_int (by simp [mLast, sumTo, mNs1, h_71, g_95])), (so_int (by simp [mLast, sumTo, mNs1, h_71, g_95])), rfl, rfl, trivial⟩ rfl
                  · have g_95 := cv_b0 h_95
                    refine z_iconst (v := 1) C (by decide +kernel) dX5_volume_98 ?_
                    refine z_goto (tgt := 103) C dX5_volume_99 (by decide) ?_
                    refine z_iadd (v := nI (sumTo (mNs1 y j) p + 1)) C (cv_add (sumTo (mNs1 y j) p) 1) dX5_volume_103 ?_
                    refine z_istore (ls' := [some (.ref (n0 + 113)), some (.int (nI j)), some (.int 3), some (.int (nI p)), some (.int (nI (sumTo (mNs1 y j) p + 1))), some (.int 0), some (.int (nI p)), some (.int (y 6 (40 * j + p)))]) C (by decide) rfl dX5_volume_104 ?_
                    refine z_iinc (v := nI (p + 1)) (ls' := [some (.ref (n0 + 113)), some (.int (nI j)), some (.int 3), some (.int (nI p)), some (.int (nI (sumTo (mNs1 y j) p + 1))), some (.int 0), some (.int (nI (p + 1))), some (.int (y 6 (40 * j + p)))]) C rfl (cv_inc p 1) (by decide) rfl dX5_volume_106 ?_
                    refine z_goto (tgt := 47) C dX5_volume_109 (by decide) ?_
                    exact z_cast (σ1 := (κ, y, o)) (ls' := [some (.ref (n0 + 113)), some (.int (nI j)), some (.int 3), some (.int (mLast y j (p + 1))), some (.int (nI (sumTo (mNs1 y j) (p + 1)))), some (.int 0), some (.int (nI (p + 1))), none]) (st' := []) (ih_47) rfl ⟨rfl, rfl, rfl, (so_int (by simp [mLast, sumTo, mNs1, h_71, g_95])), (so_int (by simp [mLast, sumTo, mNs1, h_71, g_95])), rfl, rfl, trivial⟩ rfl
        · exact absurd h_31 (by decide +kernel)
      · exact absurd h_16 (by decide +kernel)
set_option maxHeartbeats 4000000 in
set_option maxRecDepth 100000 in
theorem c_X5_volume_4 (l : Launch) (D : DD) (n0 : Nat) (κ μ : KH) (o : Int64) (j n : Nat) (hj : j < 16) (h1 : μ 1 j ≠ 0) (y : KH) (hy : y = up μ 0 0 0) (hn : y 0 23 = nI n) (hn8 : n ≤ 8) : HM l D n0 yX5_volume cX5_volume 8 (some .int) 3 68 [.ref (n0 + 113), .int (nI j), .int 4] (κ, μ, o) (some (.int (y 5 j))) (κ, y, o) := by
  refine HM.of (by decide) (by simp [Value.category]) (by simp) (Or.inr (Or.inl ⟨_, .int, rfl, rfl, rfl⟩)) ?_
  intro pp ee ss mm aa bb me cd Q C K hret
  show ZZ pp l ee (rmk 3 68) ss mm aa bb me cd D n0 127 8 0 0 Q _ 0 [some (.ref (n0 + 113)), some (.int (nI j)), some (.int 4), none, none, none, none, none] []
  refine z_aload_n C rfl dX5_volume_0 ?_
  refine z_aload_n C rfl dX5_volume_1 ?_
  refine z_iload_n C rfl dX5_volume_2 ?_
  refine z_callV (As := [.int (nI j)]) (r := (some (.int (b2i (!decide (μ 1 j = 0)))))) (σ1 := (κ, μ, o)) (st := [.ref (n0 + 113)]) (st1 := [.int (b2i (!decide (μ 1 j = 0))), .ref (n0 + 113)]) C K ok_X5_126 (c_X5_isVolume l D n0 κ μ o j (by omega)) enc_M (by decide) rfl rfl ⟨by decide, by decide⟩ ⟨Nat.zero_le _, Nat.zero_le _⟩ (by simp [Value.category]) dX5_volume_3 rfl rfl ?_
  refine z_if_eq (tgt := 19) C dX5_volume_6 (by decide) (fun h_6 => ?_) (fun h_6 => ?_)
  · have g_6 := cv_b0 h_6
    exact absurd g_6 (by simp [h1])
  · have g_6 := cv_b1 h_6
    refine z_iload_n C rfl dX5_volume_9 ?_
    refine z_if_lt (tgt := 19) C dX5_volume_10 (by decide) (fun h_10 => ?_) (fun h_10 => ?_)
    · exact absurd h_10 (by decide +kernel)
    · skip
      refine z_iload_n C rfl dX5_volume_13 ?_
      refine z_bipush (v := 7) C (by decide +kernel) dX5_volume_14 ?_
      refine z_icmp_le (tgt := 23) C dX5_volume_16 (by decide) (fun h_16 => ?_) (fun h_16 => ?_)
      · skip
        refine z_iconst (v := 0) C (by decide +kernel) dX5_volume_23 ?_
        refine pf_X5_51 (x := 0) C dX5_volume_24 ?_
        rw [← hy]
        refine z_aload_n C rfl dX5_volume_27 ?_
        refine gf_X5_51 (v := 0) C (by rw [hy]; exact up_self) dX5_volume_28 ?_
        refine z_if_le (tgt := 36) C dX5_volume_31 (by decide) (fun h_31 => ?_) (fun h_31 => ?_)
        · skip
          refine z_iconst (v := (-1)) C (by decide +kernel) dX5_volume_36 ?_
          refine z_istore_n (ls' := [some (.ref (n0 + 113)), some (.int (nI j)), some (.int 4), some (.int ((-1))), none, none, none, none]) C (by decide) rfl dX5_volume_37 ?_
          refine z_iconst (v := 0) C (by decide +kernel) dX5_volume_38 ?_
          refine z_istore (ls' := [some (.ref (n0 + 113)), some (.int (nI j)), some (.int 4), some (.int ((-1))), some (.int 0), none, none, none]) C (by decide) rfl dX5_volume_39 ?_
          refine z_iconst (v := 0) C (by decide +kernel) dX5_volume_41 ?_
          refine z_istore (ls' := [some (.ref (n0 + 113)), some (.int (nI j)), some (.int 4), some (.int ((-1))), some (.int 0), some (.int 0), none, none]) C (by decide) rfl dX5_volume_42 ?_
          refine z_iconst (v := 0) C (by decide +kernel) dX5_volume_44 ?_
          refine z_istore (ls' := [some (.ref (n0 + 113)), some (.int (nI j)), some (.int 4), some (.int ((-1))), some (.int 0), some (.int 0), some (.int 0), none]) C (by decide) rfl dX5_volume_45 ?_
          refine z_cast (σ1 := (κ, y, o)) (ls' := [some (.ref (n0 + 113)), some (.int (nI j)), some (.int 4), some (.int (mLast y j 0)), some (.int (nI (sumTo (mNs1 y j) 0))), some (.int 0), some (.int (nI 0)), none]) (st' := []) (z_for (P := fun p => ZZ pp l ee (rmk 3 68) ss mm aa bb me cd D n0 127 8 0 0 Q (κ, y, o) 47 [some (.ref (n0 + 113)), some (.int (nI j)), some (.int 4), some (.int (mLast y j p)), some (.int (nI (sumTo (mNs1 y j) p))), some (.int 0), some (.int (nI p)), none] []) (40) ?_ ?_ 0 (Nat.zero_le _)) rfl ⟨rfl, rfl, rfl, (so_int rfl), (so_int rfl), rfl, rfl, trivial⟩ rfl
          · skip
            refine z_iload C rfl dX5_volume_47 ?_
            refine z_bipush (v := 40) C (by decide +kernel) dX5_volume_49 ?_
            refine z_icmp_ge (tgt := 112) C dX5_volume_51 (by decide) (fun h_51 => ?_) (fun h_51 => ?_)
            · have g_51 := cv_le (a := 40) (b := 40) (by omega) (by omega) h_51
              refine z_iconst (v := 0) C (by decide +kernel) dX5_volume_112 ?_
              refine z_istore (ls' := [some (.ref (n0 + 113)), some (.int (nI j)), some (.int 4), some (.int (mLast y j 40)), some (.int (nI (sumTo (mNs1 y j) 40))), some (.int 0), some (.int 0), none]) C (by decide) rfl dX5_volume_113 ?_
              refine z_cast (σ1 := (κ, y, o)) (ls' := [some (.ref (n0 + 113)), some (.int (nI j)), some (.int 4), some (.int (mLast y j 40)), some (.int (nI (sumTo (mNs1 y j) 40))), some (.int (nI (sumTo (mQv1 y j) 0))), some (.int (nI 0)), none]) (st' := []) (z_for (P := fun i => ZZ pp l ee (rmk 3 68) ss mm aa bb me cd D n0 127 8 0 0 Q (κ, y, o) 115 [some (.ref (n0 + 113)), some (.int (nI j)), some (.int 4), some (.int (mLast y j 40)), some (.int (nI (sumTo (mNs1 y j) 40))), some (.int (nI (sumTo (mQv1 y j) i))), some (.int (nI i)), none] []) (n) ?_ ?_ 0 (Nat.zero_le _)) rfl ⟨rfl, rfl, rfl, rfl, rfl, (so_int rfl), rfl, trivial⟩ rfl
              · skip
                refine z_iload C rfl dX5_volume_115 ?_
                refine z_aload_n C rfl dX5_volume_117 ?_
                refine gf_X5_107 (v := nI n) C hn dX5_volume_118 ?_
                refine z_icmp_ge (tgt := 151) C dX5_volume_121 (by decide) (fun h_121 => ?_) (fun h_121 => ?_)
                · have g_121 := cv_le (a := n) (b := n) (by omega) (by omega) h_121
                  refine z_iload_n C rfl dX5_volume_151 ?_
                  refine z_if_ne (tgt := 164) C dX5_volume_152 (by decide) (fun h_152 => ?_) (fun h_152 => ?_)
                  · skip
                    refine z_iload_n C rfl dX5_volume_164 ?_
                    refine z_iconst (v := 1) C (by decide +kernel) dX5_volume_165 ?_
                    refine z_icmp_ne (tgt := 177) C dX5_volume_166 (by decide) (fun h_166 => ?_) (fun h_166 => ?_)
                    · skip
                      refine z_iload_n C rfl dX5_volume_177 ?_
                      refine z_iconst (v := 2) C (by decide +kernel) dX5_volume_178 ?_
                      refine z_icmp_ne (tgt := 186) C dX5_volume_179 (by decide) (fun h_179 => ?_) (fun h_179 => ?_)
                      · skip
                        refine z_iload_n C rfl dX5_volume_186 ?_
                        refine z_iconst (v := 3) C (by decide +kernel) dX5_volume_187 ?_
                        refine z_icmp_ne (tgt := 196) C dX5_volume_188 (by decide) (fun h_188 => ?_) (fun h_188 => ?_)
                        · skip
                          refine z_iload_n C rfl dX5_volume_196 ?_
                          refine z_iconst (v := 4) C (by decide +kernel) dX5_volume_197 ?_
                          refine z_icmp_ne (tgt := 210) C dX5_volume_198 (by decide) (fun h_198 => ?_) (fun h_198 => ?_)
                          · exact absurd h_198 (by decide +kernel)
                          · skip
                            refine z_aload_n C rfl dX5_volume_201 ?_
                            refine gf_X5_23 C dX5_volume_202 ?_
                            refine z_iload_n C rfl dX5_volume_205 ?_
                            refine al_118 (v := y 5 j) C (j) rfl (by omega) rfl dX5_volume_206 ?_
                            refine z_goto (tgt := 249) C dX5_volume_207 (by decide) ?_
                            exact z_endI (hret _ _ dX5_volume_249) rfl rfl
                        · exact absurd h_188 (by decide +kernel)
                      · exact absurd h_179 (by decide +kernel)
                    · exact absurd h_166 (by decide +kernel)
                  · exact absurd h_152 (by decide +kernel)
                · have g_121 := cv_nle (a := n) (b := n) (by omega) (by omega) h_121
                  exact absurd g_121 (by omega)
              · intro i hi_115 ih_115
                refine z_iload C rfl dX5_volume_115 ?_
                refine z_aload_n C rfl dX5_volume_117 ?_
                refine gf_X5_107 (v := nI n) C hn dX5_volume_118 ?_
                refine z_icmp_ge (tgt := 151) C dX5_volume_121 (by decide) (fun h_121 => ?_) (fun h_121 => ?_)
                · have g_121 := cv_le (a := n) (b := i) (by omega) (by omega) h_121
                  exact absurd hi_115 (by omega)
                · have g_121 := cv_nle (a := n) (b := i) (by omega) (by omega) h_121
                  refine z_iload C rfl dX5_volume_124 ?_
                  refine z_aload_n C rfl dX5_volume_126 ?_
                  refine gf_X5_42 C dX5_volume_127 ?_
                  refine z_iload C rfl dX5_volume_130 ?_
                  refine al_123 (v := y 10 i) C (i) rfl (by omega) rfl dX5_volume_132 ?_
                  refine z_iload_n C rfl dX5_volume_133 ?_
                  refine z_icmp_ne (tgt := 141) C dX5_volume_134 (by decide) (fun h_134 => ?_) (fun h_134 => ?_)
                  · skip
                    refine z_iconst (v := 0) C (by decide +kernel) dX5_volume_141 ?_
                    refine z_iadd (v := nI (sumTo (mQv1 y j) i + 0)) C (cv_add (sumTo (mQv1 y j) i) 0) dX5_volume_142 ?_
                    refine z_istore (ls' := [some (.ref (n0 + 113)), some (.int (nI j)), some (.int 4), some (.int (mLast y j 40)), some (.int (nI (sumTo (mNs1 y j) 40))), some (.int (nI (sumTo (mQv1 y j) i + 0))), some (.int (nI i)), none]) C (by decide) rfl dX5_volume_143 ?_
                    refine z_iinc (v := nI (i + 1)) (ls' := [some (.ref (n0 + 113)), some (.int (nI j)), some (.int 4), some (.int (mLast y j 40)), some (.int (nI (sumTo (mNs1 y j) 40))), some (.int (nI (sumTo (mQv1 y j) i + 0))), some (.int (nI (i + 1))), none]) C rfl (cv_inc i 1) (by decide) rfl dX5_volume_145 ?_
                    refine z_goto (tgt := 115) C dX5_volume_148 (by decide) ?_
                    exact z_cast (σ1 := (κ, y, o)) (ls' := [some (.ref (n0 + 113)), some (.int (nI j)), some (.int 4), some (.int (mLast y j 40)), some (.int (nI (sumTo (mNs1 y j) 40))), some (.int (nI (sumTo (mQv1 y j) (i + 1)))), some (.int (nI (i + 1))), none]) (st' := []) (ih_115) rfl ⟨rfl, rfl, rfl, rfl, rfl, (so_int (by simp [sumTo, mQv1, h_134])), rfl, trivial⟩ rfl
                  · skip
                    refine z_iconst (v := 1) C (by decide +kernel) dX5_volume_137 ?_
                    refine z_goto (tgt := 142) C dX5_volume_138 (by decide) ?_
                    refine z_iadd (v := nI (sumTo (mQv1 y j) i + 1)) C (cv_add (sumTo (mQv1 y j) i) 1) dX5_volume_142 ?_
                    refine z_istore (ls' := [some (.ref (n0 + 113)), some (.int (nI j)), some (.int 4), some (.int (mLast y j 40)), some (.int (nI (sumTo (mNs1 y j) 40))), some (.int (nI (sumTo (mQv1 y j) i + 1))), some (.int (nI i)), none]) C (by decide) rfl dX5_volume_143 ?_
                    refine z_iinc (v := nI (i + 1)) (ls' := [some (.ref (n0 + 113)), some (.int (nI j)), some (.int 4), some (.int (mLast y j 40)), some (.int (nI (sumTo (mNs1 y j) 40))), some (.int (nI (sumTo (mQv1 y j) i + 1))), some (.int (nI (i + 1))), none]) C rfl (cv_inc i 1) (by decide) rfl dX5_volume_145 ?_
                    refine z_goto (tgt := 115) C dX5_volume_148 (by decide) ?_
                    exact z_cast (σ1 := (κ, y, o)) (ls' := [some (.ref (n0 + 113)), some (.int (nI j)), some (.int 4), some (.int (mLast y j 40)), some (.int (nI (sumTo (mNs1 y j) 40))), some (.int (nI (sumTo (mQv1 y j) (i + 1)))), some (.int (nI (i + 1))), none]) (st' := []) (ih_115) rfl ⟨rfl, rfl, rfl, rfl, rfl, (so_int (by simp [sumTo, mQv1, h_134])), rfl, trivial⟩ rfl
            · have g_51 := cv_nle (a := 40) (b := 40) (by omega) (by omega) h_51
              exact absurd g_51 (by omega)
          · intro p hi_47 ih_47
            refine z_iload C rfl dX5_volume_47 ?_
            refine z_bipush (v := 40) C (by decide +kernel) dX5_volume_49 ?_
            refine z_icmp_ge (tgt := 112) C dX5_volume_51 (by decide) (fun h_51 => ?_) (fun h_51 => ?_)
            · have g_51 := cv_le (a := 40) (b := p) (by omega) (by omega) h_51
              exact absurd hi_47 (by omega)
            · have g_51 := cv_nle (a := 40) (b := p) (by omega) (by omega) h_51
              refine z_aload_n C rfl dX5_volume_54 ?_
              refine gf_X5_26 C dX5_volume_55 ?_
              refine z_iconst (v := 0) C (by decide +kernel) dX5_volume_58 ?_
              refine z_iload_n C rfl dX5_volume_59 ?_
              refine z_iload C rfl dX5_volume_60 ?_
              refine z_callS (As := [.int 0, .int (nI j), .int (nI p)]) (r := (some (.int (nI (40 * j + p))))) (σ1 := (κ, y, o)) (st := [.ref (n0 + 119)]) (st1 := [.int (nI (40 * j + p)), .ref (n0 + 119)]) C K ok_X5_58 (c_X5_at0 l D n0 κ y o j p) rfl ⟨by decide, by decide⟩ ⟨Nat.zero_le _, Nat.zero_le _⟩ (by simp [Value.category]) dX5_volume_62 rfl rfl ?_
              refine al_119 (v := y 6 (40 * j + p)) C (40 * j + p) rfl (by omega) rfl dX5_volume_65 ?_
              refine z_istore (ls' := [some (.ref (n0 + 113)), some (.int (nI j)), some (.int 4), some (.int (mLast y j p)), some (.int (nI (sumTo (mNs1 y j) p))), some (.int 0), some (.int (nI p)), some (.int (y 6 (40 * j + p)))]) C (by decide) rfl dX5_volume_66 ?_
              refine z_iload C rfl dX5_volume_68 ?_
              refine z_iconst (v := (-1)) C (by decide +kernel) dX5_volume_70 ?_
              refine z_icmp_eq (tgt := 79) C dX5_volume_71 (by decide) (fun h_71 => ?_) (fun h_71 => ?_)
              · skip
                refine z_iload_n C rfl dX5_volume_79 ?_
                refine z_istore_n (ls' := [some (.ref (n0 + 113)), some (.int (nI j)), some (.int 4), some (.int (mLast y j p)), some (.int (nI (sumTo (mNs1 y j) p))), some (.int 0), some (.int (nI p)), some (.int (y 6 (40 * j + p)))]) C (by decide) rfl dX5_volume_80 ?_
                refine z_iload C rfl dX5_volume_81 ?_
                refine z_iload C rfl dX5_volume_83 ?_
                refine z_iconst (v := (-1)) C (by decide +kernel) dX5_volume_85 ?_
                refine z_icmp_eq (tgt := 102) C dX5_volume_86 (by decide) (fun h_86 => ?_) (fun h_86 => ?_)
                · skip
                  refine z_iconst (v := 0) C (by decide +kernel) dX5_volume_102 ?_
                  refine z_iadd (v := nI (sumTo (mNs1 y j) p + 0)) C (cv_add (sumTo (mNs1 y j) p) 0) dX5_volume_103 ?_
                  refine z_istore (ls' := [some (.ref (n0 + 113)), some (.int (nI j)), some (.int 4), some (.int (mLast y j p)), some (.int (nI (sumTo (mNs1 y j) p + 0))), some (.int 0), some (.int (nI p)), some (.int (y 6 (40 * j + p)))]) C (by decide) rfl dX5_volume_104 ?_
                  refine z_iinc (v := nI (p + 1)) (ls' := [some (.ref (n0 + 113)), some (.int (nI j)), some (.int 4), some (.int (mLast y j p)), some (.int (nI (sumTo (mNs1 y j) p + 0))), some (.int 0), some (.int (nI (p + 1))), some (.int (y 6 (40 * j + p)))]) C rfl (cv_inc p 1) (by decide) rfl dX5_volume_106 ?_
                  refine z_goto (tgt := 47) C dX5_volume_109 (by decide) ?_
                  exact z_cast (σ1 := (κ, y, o)) (ls' := [some (.ref (n0 + 113)), some (.int (nI j)), some (.int 4), some (.int (mLast y j (p + 1))), some (.int (nI (sumTo (mNs1 y j) (p + 1)))), some (.int 0), some (.int (nI (p + 1))), none]) (st' := []) (ih_47) rfl ⟨rfl, rfl, rfl, (so_int (by simp [mLast, sumTo, mNs1, h_71])), (so_int (by simp [mLast, sumTo, mNs1, h_71])), rfl, rfl, trivial⟩ rfl
                · exact absurd h_71 h_86
              · skip
                refine z_iload C rfl dX5_volume_74 ?_
                refine z_goto (tgt := 80) C dX5_volume_76 (by decide) ?_
                refine z_istore_n (ls' := [some (.ref (n0 + 113)), some (.int (nI j)), some (.int 4), some (.int (nI p)), some (.int (nI (sumTo (mNs1 y j) p))), some (.int 0), some (.int (nI p)), some (.int (y 6 (40 * j + p)))]) C (by decide) rfl dX5_volume_80 ?_
                refine z_iload C rfl dX5_volume_81 ?_
                refine z_iload C rfl dX5_volume_83 ?_
                refine z_iconst (v := (-1)) C (by decide +kernel) dX5_volume_85 ?_
                refine z_icmp_eq (tgt := 102) C dX5_volume_86 (by decide) (fun h_86 => ?_) (fun h_86 => ?_)
                · exact absurd h_86 h_71
                · skip
                  refine z_aload_n C rfl dX5_volume_89 ?_
                  refine z_iload C rfl dX5_volume_90 ?_
                  refine z_callV (As := [.int (y 6 (40 * j + p))]) (r := (some (.int (b2i (mSole y (y 6 (40 * j + p))))))) (σ1 := (κ, y, o)) (st := [.int (nI (sumTo (mNs1 y j) p))]) (st1 := [.int (b2i (mSole y (y 6 (40 * j + p)))), .int (nI (sumTo (mNs1 y j) p))]) C K ok_X5_73 (c_X5_isSole l D n0 κ y o (y 6 (40 * j + p))) enc_M (by decide) rfl rfl ⟨by decide, by decide⟩ ⟨Nat.zero_le _, Nat.zero_le _⟩ (by simp [Value.category]) dX5_volume_92 rfl rfl ?_
                  refine z_if_ne (tgt := 102) C dX5_volume_95 (by decide) (fun h_95 => ?_) (fun h_95 => ?_)
                  · have g_95 := cv_b1 h_95
                    refine z_iconst (v := 0) C (by decide +kernel) dX5_volume_102 ?_
                    refine z_iadd (v := nI (sumTo (mNs1 y j) p + 0)) C (cv_add (sumTo (mNs1 y j) p) 0) dX5_volume_103 ?_
                    refine z_istore (ls' := [some (.ref (n0 + 113)), some (.int (nI j)), some (.int 4), some (.int (nI p)), some (.int (nI (sumTo (mNs1 y j) p + 0))), some (.int 0), some (.int (nI p)), some (.int (y 6 (40 * j + p)))]) C (by decide) rfl dX5_volume_104 ?_
                    refine z_iinc (v := nI (p + 1)) (ls' := [some (.ref (n0 + 113)), some (.int (nI j)), some (.int 4), some (.int (nI p)), some (.int (nI (sumTo (mNs1 y j) p + 0))), some (.int 0), some (.int (nI (p + 1))), some (.int (y 6 (40 * j + p)))]) C rfl (cv_inc p 1) (by decide) rfl dX5_volume_106 ?_
                    refine z_goto (tgt := 47) C dX5_volume_109 (by decide) ?_
                    exact z_cast (σ1 := (κ, y, o)) (ls' := [some (.ref (n0 + 113)), some (.int (nI j)), some (.int 4), some (.int (mLast y j (p + 1))), some (.int (nI (sumTo (mNs1 y j) (p + 1)))), some (.int 0), some (.int (nI (p + 1))), none]) (st' := []) (ih_47) rfl ⟨rfl, rfl, rfl, (so_int (by simp [mLast, sumTo, mNs1, h_71, g_95])), (so_int (by simp [mLast, sumTo, mNs1, h_71, g_95])), rfl, rfl, trivial⟩ rfl
                  · have g_95 := cv_b0 h_95
                    refine z_iconst (v := 1) C (by decide +kernel) dX5_volume_98 ?_
                    refine z_goto (tgt := 103) C dX5_volume_99 (by decide) ?_
                    refine z_iadd (v := nI (sumTo (mNs1 y j) p + 1)) C (cv_add (sumTo (mNs1 y j) p) 1) dX5_volume_103 ?_
                    refine z_istore (ls' := [some (.ref (n0 + 113)), some (.int (nI j)), some (.int 4), some (.int (nI p)), some (.int (nI (sumTo (mNs1 y j) p + 1))), some (.int 0), some (.int (nI p)), some (.int (y 6 (40 * j + p)))]) C (by decide) rfl dX5_volume_104 ?_
                    refine z_iinc (v := nI (p + 1)) (ls' := [some (.ref (n0 + 113)), some (.int (nI j)), some (.int 4), some (.int (nI p)), some (.int (nI (sumTo (mNs1 y j) p + 1))), some (.int 0), some (.int (nI (p + 1))), some (.int (y 6 (40 * j + p)))]) C rfl (cv_inc p 1) (by decide) rfl dX5_volume_106 ?_
                    refine z_goto (tgt := 47) C dX5_volume_109 (by decide) ?_
                    exact z_cast (σ1 := (κ, y, o)) (ls' := [some (.ref (n0 + 113)), some (.int (nI j)), some (.int 4), some (.int (mLast y j (p + 1))), some (.int (nI (sumTo (mNs1 y j) (p + 1)))), some (.int 0), some (.int (nI (p + 1))), none]) (st' := []) (ih_47) rfl ⟨rfl, rfl, rfl, (so_int (by simp [mLast, sumTo, mNs1, h_71, g_95])), (so_int (by simp [mLast, sumTo, mNs1, h_71, g_95])), rfl, rfl, trivial⟩ rfl
        · exact absurd h_31 (by decide +kernel)
      · exact absurd h_16 (by decide +kernel)
set_option maxHeartbeats 4000000 in
set_option maxRecDepth 100000 in
theorem c_X5_volume_5 (l : Launch) (D : DD) (n0 : Nat) (κ μ : KH) (o : Int64) (j n : Nat) (hj : j < 16) (h1 : μ 1 j ≠ 0) (y : KH) (hy : y = up μ 0 0 0) (hn : y 0 23 = nI n) (hn8 : n ≤ 8) : HM l D n0 yX5_volume cX5_volume 8 (some .int) 3 68 [.ref (n0 + 113), .int (nI j), .int 5] (κ, μ, o) (some (.int (nI (sumTo (mQv1 y j) n)))) (κ, y, o) := by
  refine HM.of (by decide) (by simp [Value.category]) (by simp) (Or.inr (Or.inl ⟨_, .int, rfl, rfl, rfl⟩)) ?_
  intro pp ee ss mm aa bb me cd Q C K hret
  show ZZ pp l ee (rmk 3 68) ss mm aa bb me cd D n0 127 8 0 0 Q _ 0 [some (.ref (n0 + 113)), some (.int (nI j)), some (.int 5), none, none, none, none, none] []
  refine z_aload_n C rfl dX5_volume_0 ?_
  refine z_aload_n C rfl dX5_volume_1 ?_
  refine z_iload_n C rfl dX5_volume_2 ?_
  refine z_callV (As := [.int (nI j)]) (r := (some (.int (b2i (!decide (μ 1 j = 0)))))) (σ1 := (κ, μ, o)) (st := [.ref (n0 + 113)]) (st1 := [.int (b2i (!decide (μ 1 j = 0))), .ref (n0 + 113)]) C K ok_X5_126 (c_X5_isVolume l D n0 κ μ o j (by omega)) enc_M (by decide) rfl rfl ⟨by decide, by decide⟩ ⟨Nat.zero_le _, Nat.zero_le _⟩ (by simp [Value.category]) dX5_volume_3 rfl rfl ?_
  refine z_if_eq (tgt := 19) C dX5_volume_6 (by decide) (fun h_6 => ?_) (fun h_6 => ?_)
  · have g_6 := cv_b0 h_6
    exact absurd g_6 (by simp [h1])
  · have g_6 := cv_b1 h_6
    refine z_iload_n C rfl dX5_volume_9 ?_
    refine z_if_lt (tgt := 19) C dX5_volume_10 (by decide) (fun h_10 => ?_) (fun h_10 => ?_)
    · exact absurd h_10 (by decide +kernel)
    · skip
      refine z_iload_n C rfl dX5_volume_13 ?_
      refine z_bipush (v := 7) C (by decide +kernel) dX5_volume_14 ?_
      refine z_icmp_le (tgt := 23) C dX5_volume_16 (by decide) (fun h_16 => ?_) (fun h_16 => ?_)
      · skip
        refine z_iconst (v := 0) C (by decide +kernel) dX5_volume_23 ?_
        refine pf_X5_51 (x := 0) C dX5_volume_24 ?_
        rw [← hy]
        refine z_aload_n C rfl dX5_volume_27 ?_
        refine gf_X5_51 (v := 0) C (by rw [hy]; exact up_self) dX5_volume_28 ?_
        refine z_if_le (tgt := 36) C dX5_volume_31 (by decide) (fun h_31 => ?_) (fun h_31 => ?_)
        · skip
          refine z_iconst (v := (-1)) C (by decide +kernel) dX5_volume_36 ?_
          refine z_istore_n (ls' := [some (.ref (n0 + 113)), some (.int (nI j)), some (.int 5), some (.int ((-1))), none, none, none, none]) C (by decide) rfl dX5_volume_37 ?_
          refine z_iconst (v := 0) C (by decide +kernel) dX5_volume_38 ?_
          refine z_istore (ls' := [some (.ref (n0 + 113)), some (.int (nI j)), some (.int 5), some (.int ((-1))), some (.int 0), none, none, none]) C (by decide) rfl dX5_volume_39 ?_
          refine z_iconst (v := 0) C (by decide +kernel) dX5_volume_41 ?_
          refine z_istore (ls' := [some (.ref (n0 + 113)), some (.int (nI j)), some (.int 5), some (.int ((-1))), some (.int 0), some (.int 0), none, none]) C (by decide) rfl dX5_volume_42 ?_
          refine z_iconst (v := 0) C (by decide +kernel) dX5_volume_44 ?_
          refine z_istore (ls' := [some (.ref (n0 + 113)), some (.int (nI j)), some (.int 5), some (.int ((-1))), some (.int 0), some (.int 0), some (.int 0), none]) C (by decide) rfl dX5_volume_45 ?_
          refine z_cast (σ1 := (κ, y, o)) (ls' := [some (.ref (n0 + 113)), some (.int (nI j)), some (.int 5), some (.int (mLast y j 0)), some (.int (nI (sumTo (mNs1 y j) 0))), some (.int 0), some (.int (nI 0)), none]) (st' := []) (z_for (P := fun p => ZZ pp l ee (rmk 3 68) ss mm aa bb me cd D n0 127 8 0 0 Q (κ, y, o) 47 [some (.ref (n0 + 113)), some (.int (nI j)), some (.int 5), some (.int (mLast y j p)), some (.int (nI (sumTo (mNs1 y j) p))), some (.int 0), some (.int (nI p)), none] []) (40) ?_ ?_ 0 (Nat.zero_le _)) rfl ⟨rfl, rfl, rfl, (so_int rfl), (so_int rfl), rfl, rfl, trivial⟩ rfl
          · skip
            refine z_iload C rfl dX5_volume_47 ?_
            refine z_bipush (v := 40) C (by decide +kernel) dX5_volume_49 ?_
            refine z_icmp_ge (tgt := 112) C dX5_volume_51 (by decide) (fun h_51 => ?_) (fun h_51 => ?_)
            · have g_51 := cv_le (a := 40) (b := 40) (by omega) (by omega) h_51
              refine z_iconst (v := 0) C (by decide +kernel) dX5_volume_112 ?_
              refine z_istore (ls' := [some (.ref (n0 + 113)), some (.int (nI j)), some (.int 5), some (.int (mLast y j 40)), some (.int (nI (sumTo (mNs1 y j) 40))), some (.int 0), some (.int 0), none]) C (by decide) rfl dX5_volume_113 ?_
              refine z_cast (σ1 := (κ, y, o)) (ls' := [some (.ref (n0 + 113)), some (.int (nI j)), some (.int 5), some (.int (mLast y j 40)), some (.int (nI (sumTo (mNs1 y j) 40))), some (.int (nI (sumTo (mQv1 y j) 0))), some (.int (nI 0)), none]) (st' := []) (z_for (P := fun i => ZZ pp l ee (rmk 3 68) ss mm aa bb me cd D n0 127 8 0 0 Q (κ, y, o) 115 [some (.ref (n0 + 113)), some (.int (nI j)), some (.int 5), some (.int (mLast y j 40)), some (.int (nI (sumTo (mNs1 y j) 40))), some (.int (nI (sumTo (mQv1 y j) i))), some (.int (nI i)), none] []) (n) ?_ ?_ 0 (Nat.zero_le _)) rfl ⟨rfl, rfl, rfl, rfl, rfl, (so_int rfl), rfl, trivial⟩ rfl
              · skip
                refine z_iload C rfl dX5_volume_115 ?_
                refine z_aload_n C rfl dX5_volume_117 ?_
                refine gf_X5_107 (v := nI n) C hn dX5_volume_118 ?_
                refine z_icmp_ge (tgt := 151) C dX5_volume_121 (by decide) (fun h_121 => ?_) (fun h_121 => ?_)
                · have g_121 := cv_le (a := n) (b := n) (by omega) (by omega) h_121
                  refine z_iload_n C rfl dX5_volume_151 ?_
                  refine z_if_ne (tgt := 164) C dX5_volume_152 (by decide) (fun h_152 => ?_) (fun h_152 => ?_)
                  · skip
                    refine z_iload_n C rfl dX5_volume_164 ?_
                    refine z_iconst (v := 1) C (by decide +kernel) dX5_volume_165 ?_
                    refine z_icmp_ne (tgt := 177) C dX5_volume_166 (by decide) (fun h_166 => ?_) (fun h_166 => ?_)
                    · skip
                      refine z_iload_n C rfl dX5_volume_177 ?_
                      refine z_iconst (v := 2) C (by decide +kernel) dX5_volume_178 ?_
                      refine z_icmp_ne (tgt := 186) C dX5_volume_179 (by decide) (fun h_179 => ?_) (fun h_179 => ?_)
                      · skip
                        refine z_iload_n C rfl dX5_volume_186 ?_
                        refine z_iconst (v := 3) C (by decide +kernel) dX5_volume_187 ?_
                        refine z_icmp_ne (tgt := 196) C dX5_volume_188 (by decide) (fun h_188 => ?_) (fun h_188 => ?_)
                        · skip
                          refine z_iload_n C rfl dX5_volume_196 ?_
                          refine z_iconst (v := 4) C (by decide +kernel) dX5_volume_197 ?_
                          refine z_icmp_ne (tgt := 210) C dX5_volume_198 (by decide) (fun h_198 => ?_) (fun h_198 => ?_)
                          · skip
                            refine z_iload_n C rfl dX5_volume_210 ?_
                            refine z_iconst (v := 5) C (by decide +kernel) dX5_volume_211 ?_
                            refine z_icmp_ne (tgt := 220) C dX5_volume_212 (by decide) (fun h_212 => ?_) (fun h_212 => ?_)
                            · exact absurd h_212 (by decide +kernel)
                            · skip
                              refine z_iload C rfl dX5_volume_215 ?_
                              refine z_goto (tgt := 249) C dX5_volume_217 (by decide) ?_
                              exact z_endI (hret _ _ dX5_volume_249) rfl rfl
                          · exact absurd h_198 (by decide +kernel)
                        · exact absurd h_188 (by decide +kernel)
                      · exact absurd h_179 (by decide +kernel)
                    · exact absurd h_166 (by decide +kernel)
                  · exact absurd h_152 (by decide +kernel)
                · have g_121 := cv_nle (a := n) (b := n) (by omega) (by omega) h_121
                  exact absurd g_121 (by omega)
              · intro i hi_115 ih_115
                refine z_iload C rfl dX5_volume_115 ?_
                refine z_aload_n C rfl dX5_volume_117 ?_
                refine gf_X5_107 (v := nI n) C hn dX5_volume_118 ?_
                refine z_icmp_ge (tgt := 151) C dX5_volume_121 (by decide) (fun h_121 => ?_) (fun h_121 => ?_)
                · have g_121 := cv_le (a := n) (b := i) (by omega) (by omega) h_121
                  exact absurd hi_115 (by omega)
                · have g_121 := cv_nle (a := n) (b := i) (by omega) (by omega) h_121
                  refine z_iload C rfl dX5_volume_124 ?_
                  refine z_aload_n C rfl dX5_volume_126 ?_
                  refine gf_X5_42 C dX5_volume_127 ?_
                  refine z_iload C rfl dX5_volume_130 ?_
                  refine al_123 (v := y 10 i) C (i) rfl (by omega) rfl dX5_volume_132 ?_
                  refine z_iload_n C rfl dX5_volume_133 ?_
                  refine z_icmp_ne (tgt := 141) C dX5_volume_134 (by decide) (fun h_134 => ?_) (fun h_134 => ?_)
                  · skip
                    refine z_iconst (v := 0) C (by decide +kernel) dX5_volume_141 ?_
                    refine z_iadd (v := nI (sumTo (mQv1 y j) i + 0)) C (cv_add (sumTo (mQv1 y j) i) 0) dX5_volume_142 ?_
                    refine z_istore (ls' := [some (.ref (n0 + 113)), some (.int (nI j)), some (.int 5), some (.int (mLast y j 40)), some (.int (nI (sumTo (mNs1 y j) 40))), some (.int (nI (sumTo (mQv1 y j) i + 0))), some (.int (nI i)), none]) C (by decide) rfl dX5_volume_143 ?_
                    refine z_iinc (v := nI (i + 1)) (ls' := [some (.ref (n0 + 113)), some (.int (nI j)), some (.int 5), some (.int (mLast y j 40)), some (.int (nI (sumTo (mNs1 y j) 40))), some (.int (nI (sumTo (mQv1 y j) i + 0))), some (.int (nI (i + 1))), none]) C rfl (cv_inc i 1) (by decide) rfl dX5_volume_145 ?_
                    refine z_goto (tgt := 115) C dX5_volume_148 (by decide) ?_
                    exact z_cast (σ1 := (κ, y, o)) (ls' := [some (.ref (n0 + 113)), some (.int (nI j)), some (.int 5), some (.int (mLast y j 40)), some (.int (nI (sumTo (mNs1 y j) 40))), some (.int (nI (sumTo (mQv1 y j) (i + 1)))), some (.int (nI (i + 1))), none]) (st' := []) (ih_115) rfl ⟨rfl, rfl, rfl, rfl, rfl, (so_int (by simp [sumTo, mQv1, h_134])), rfl, trivial⟩ rfl
                  · skip
                    refine z_iconst (v := 1) C (by decide +kernel) dX5_volume_137 ?_
                    refine z_goto (tgt := 142) C dX5_volume_138 (by decide) ?_
                    refine z_iadd (v := nI (sumTo (mQv1 y j) i + 1)) C (cv_add (sumTo (mQv1 y j) i) 1) dX5_volume_142 ?_
                    refine z_istore (ls' := [some (.ref (n0 + 113)), some (.int (nI j)), some (.int 5), some (.int (mLast y j 40)), some (.int (nI (sumTo (mNs1 y j) 40))), some (.int (nI (sumTo (mQv1 y j) i + 1))), some (.int (nI i)), none]) C (by decide) rfl dX5_volume_143 ?_
                    refine z_iinc (v := nI (i + 1)) (ls' := [some (.ref (n0 + 113)), some (.int (nI j)), some (.int 5), some (.int (mLast y j 40)), some (.int (nI (sumTo (mNs1 y j) 40))), some (.int (nI (sumTo (mQv1 y j) i + 1))), some (.int (nI (i + 1))), none]) C rfl (cv_inc i 1) (by decide) rfl dX5_volume_145 ?_
                    refine z_goto (tgt := 115) C dX5_volume_148 (by decide) ?_
                    exact z_cast (σ1 := (κ, y, o)) (ls' := [some (.ref (n0 + 113)), some (.int (nI j)), some (.int 5), some (.int (mLast y j 40)), some (.int (nI (sumTo (mNs1 y j) 40))), some (.int (nI (sumTo (mQv1 y j) (i + 1)))), some (.int (nI (i + 1))), none]) (st' := []) (ih_115) rfl ⟨rfl, rfl, rfl, rfl, rfl, (so_int (by simp [sumTo, mQv1, h_134])), rfl, trivial⟩ rfl
            · have g_51 := cv_nle (a := 40) (b := 40) (by omega) (by omega) h_51
              exact absurd g_51 (by omega)
          · intro p hi_47 ih_47
            refine z_iload C rfl dX5_volume_47 ?_
            refine z_bipush (v := 40) C (by decide +kernel) dX5_volume_49 ?_
            refine z_icmp_ge (tgt := 112) C dX5_volume_51 (by decide) (fun h_51 => ?_) (fun h_51 => ?_)
            · have g_51 := cv_le (a := 40) (b := p) (by omega) (by omega) h_51
              exact absurd hi_47 (by omega)
            · have g_51 := cv_nle (a := 40) (b := p) (by omega) (by omega) h_51
              refine z_aload_n C rfl dX5_volume_54 ?_
              refine gf_X5_26 C dX5_volume_55 ?_
              refine z_iconst (v := 0) C (by decide +kernel) dX5_volume_58 ?_
              refine z_iload_n C rfl dX5_volume_59 ?_
              refine z_iload C rfl dX5_volume_60 ?_
              refine z_callS (As := [.int 0, .int (nI j), .int (nI p)]) (r := (some (.int (nI (40 * j + p))))) (σ1 := (κ, y, o)) (st := [.ref (n0 + 119)]) (st1 := [.int (nI (40 * j + p)), .ref (n0 + 119)]) C K ok_X5_58 (c_X5_at0 l D n0 κ y o j p) rfl ⟨by decide, by decide⟩ ⟨Nat.zero_le _, Nat.zero_le _⟩ (by simp [Value.category]) dX5_volume_62 rfl rfl ?_
              refine al_119 (v := y 6 (40 * j + p)) C (40 * j + p) rfl (by omega) rfl dX5_volume_65 ?_
              refine z_istore (ls' := [some (.ref (n0 + 113)), some (.int (nI j)), some (.int 5), some (.int (mLast y j p)), some (.int (nI (sumTo (mNs1 y j) p))), some (.int 0), some (.int (nI p)), some (.int (y 6 (40 * j + p)))]) C (by decide) rfl dX5_volume_66 ?_
              refine z_iload C rfl dX5_volume_68 ?_
              refine z_iconst (v := (-1)) C (by decide +kernel) dX5_volume_70 ?_
              refine z_icmp_eq (tgt := 79) C dX5_volume_71 (by decide) (fun h_71 => ?_) (fun h_71 => ?_)
              · skip
                refine z_iload_n C rfl dX5_volume_79 ?_
                refine z_istore_n (ls' := [some (.ref (n0 + 113)), some (.int (nI j)), some (.int 5), some (.int (mLast y j p)), some (.int (nI (sumTo (mNs1 y j) p))), some (.int 0), some (.int (nI p)), some (.int (y 6 (40 * j + p)))]) C (by decide) rfl dX5_volume_80 ?_
                refine z_iload C rfl dX5_volume_81 ?_
                refine z_iload C rfl dX5_volume_83 ?_
                refine z_iconst (v := (-1)) C (by decide +kernel) dX5_volume_85 ?_
                refine z_icmp_eq (tgt := 102) C dX5_volume_86 (by decide) (fun h_86 => ?_) (fun h_86 => ?_)
                · skip
                  refine z_iconst (v := 0) C (by decide +kernel) dX5_volume_102 ?_
                  refine z_iadd (v := nI (sumTo (mNs1 y j) p + 0)) C (cv_add (sumTo (mNs1 y j) p) 0) dX5_volume_103 ?_
                  refine z_istore (ls' := [some (.ref (n0 + 113)), some (.int (nI j)), some (.int 5), some (.int (mLast y j p)), some (.int (nI (sumTo (mNs1 y j) p + 0))), some (.int 0), some (.int (nI p)), some (.int (y 6 (40 * j + p)))]) C (by decide) rfl dX5_volume_104 ?_
                  refine z_iinc (v := nI (p + 1)) (ls' := [some (.ref (n0 + 113)), some (.int (nI j)), some (.int 5), some (.int (mLast y j p)), some (.int (nI (sumTo (mNs1 y j) p + 0))), some (.int 0), some (.int (nI (p + 1))), some (.int (y 6 (40 * j + p)))]) C rfl (cv_inc p 1) (by decide) rfl dX5_volume_106 ?_
                  refine z_goto (tgt := 47) C dX5_volume_109 (by decide) ?_
                  exact z_cast (σ1 := (κ, y, o)) (ls' := [some (.ref (n0 + 113)), some (.int (nI j)), some (.int 5), some (.int (mLast y j (p + 1))), some (.int (nI (sumTo (mNs1 y j) (p + 1)))), some (.int 0), some (.int (nI (p + 1))), none]) (st' := []) (ih_47) rfl ⟨rfl, rfl, rfl, (so_int (by simp [mLast, sumTo, mNs1, h_71])), (so_int (by simp [mLast, sumTo, mNs1, h_71])), rfl, rfl, trivial⟩ rfl
                · exact absurd h_71 h_86
              · skip
                refine z_iload C rfl dX5_volume_74 ?_
                refine z_goto (tgt := 80) C dX5_volume_76 (by decide) ?_
                refine z_istore_n (ls' := [some (.ref (n0 + 113)), some (.int (nI j)), some (.int 5), some (.int (nI p)), some (.int (nI (sumTo (mNs1 y j) p))), some (.int 0), some (.int (nI p)), some (.int (y 6 (40 * j + p)))]) C (by decide) rfl dX5_volume_80 ?_
                refine z_iload C rfl dX5_volume_81 ?_
                refine z_iload C rfl dX5_volume_83 ?_
                refine z_iconst (v := (-1)) C (by decide +kernel) dX5_volume_85 ?_
                refine z_icmp_eq (tgt := 102) C dX5_volume_86 (by decide) (fun h_86 => ?_) (fun h_86 => ?_)
                · exact absurd h_86 h_71
                · skip
                  refine z_aload_n C rfl dX5_volume_89 ?_
                  refine z_iload C rfl dX5_volume_90 ?_
                  refine z_callV (As := [.int (y 6 (40 * j + p))]) (r := (some (.int (b2i (mSole y (y 6 (40 * j + p))))))) (σ1 := (κ, y, o)) (st := [.int (nI (sumTo (mNs1 y j) p))]) (st1 := [.int (b2i (mSole y (y 6 (40 * j + p)))), .int (nI (sumTo (mNs1 y j) p))]) C K ok_X5_73 (c_X5_isSole l D n0 κ y o (y 6 (40 * j + p))) enc_M (by decide) rfl rfl ⟨by decide, by decide⟩ ⟨Nat.zero_le _, Nat.zero_le _⟩ (by simp [Value.category]) dX5_volume_92 rfl rfl ?_
                  refine z_if_ne (tgt := 102) C dX5_volume_95 (by decide) (fun h_95 => ?_) (fun h_95 => ?_)
                  · have g_95 := cv_b1 h_95
                    refine z_iconst (v := 0) C (by decide +kernel) dX5_volume_102 ?_
                    refine z_iadd (v := nI (sumTo (mNs1 y j) p + 0)) C (cv_add (sumTo (mNs1 y j) p) 0) dX5_volume_103 ?_
                    refine z_istore (ls' := [some (.ref (n0 + 113)), some (.int (nI j)), some (.int 5), some (.int (nI p)), some (.int (nI (sumTo (mNs1 y j) p + 0))), some (.int 0), some (.int (nI p)), some (.int (y 6 (40 * j + p)))]) C (by decide) rfl dX5_volume_104 ?_
                    refine z_iinc (v := nI (p + 1)) (ls' := [some (.ref (n0 + 113)), some (.int (nI j)), some (.int 5), some (.int (nI p)), some (.int (nI (sumTo (mNs1 y j) p + 0))), some (.int 0), some (.int (nI (p + 1))), some (.int (y 6 (40 * j + p)))]) C rfl (cv_inc p 1) (by decide) rfl dX5_volume_106 ?_
                    refine z_goto (tgt := 47) C dX5_volume_109 (by decide) ?_
                    exact z_cast (σ1 := (κ, y, o)) (ls' := [some (.ref (n0 + 113)), some (.int (nI j)), some (.int 5), some (.int (mLast y j (p + 1))), some (.int (nI (sumTo (mNs1 y j) (p + 1)))), some (.int 0), some (.int (nI (p + 1))), none]) (st' := []) (ih_47) rfl ⟨rfl, rfl, rfl, (so_int (by simp [mLast, sumTo, mNs1, h_71, g_95])), (so_int (by simp [mLast, sumTo, mNs1, h_71, g_95])), rfl, rfl, trivial⟩ rfl
                  · have g_95 := cv_b0 h_95
                    refine z_iconst (v := 1) C (by decide +kernel) dX5_volume_98 ?_
                    refine z_goto (tgt := 103) C dX5_volume_99 (by decide) ?_
                    refine z_iadd (v := nI (sumTo (mNs1 y j) p + 1)) C (cv_add (sumTo (mNs1 y j) p) 1) dX5_volume_103 ?_
                    refine z_istore (ls' := [some (.ref (n0 + 113)), some (.int (nI j)), some (.int 5), some (.int (nI p)), some (.int (nI (sumTo (mNs1 y j) p + 1))), some (.int 0), some (.int (nI p)), some (.int (y 6 (40 * j + p)))]) C (by decide) rfl dX5_volume_104 ?_
                    refine z_iinc (v := nI (p + 1)) (ls' := [some (.ref (n0 + 113)), some (.int (nI j)), some (.int 5), some (.int (nI p)), some (.int (nI (sumTo (mNs1 y j) p + 1))), some (.int 0), some (.int (nI (p + 1))), some (.int (y 6 (40 * j + p)))]) C rfl (cv_inc p 1) (by decide) rfl dX5_volume_106 ?_
                    refine z_goto (tgt := 47) C dX5_volume_109 (by decide) ?_
                    exact z_cast (σ1 := (κ, y, o)) (ls' := [some (.ref (n0 + 113)), some (.int (nI j)), some (.int 5), some (.int (mLast y j (p + 1))), some (.int (nI (sumTo (mNs1 y j) (p + 1)))), some (.int 0), some (.int (nI (p + 1))), none]) (st' := []) (ih_47) rfl ⟨rfl, rfl, rfl, (so_int (by simp [mLast, sumTo, mNs1, h_71, g_95])), (so_int (by simp [mLast, sumTo, mNs1, h_71, g_95])), rfl, rfl, trivial⟩ rfl
        · exact absurd h_31 (by decide +kernel)
      · exact absurd h_16 (by decide +kernel)
set_option maxHeartbeats 4000000 in
set_option maxRecDepth 100000 in
theorem c_X5_volume_6 (l : Launch) (D : DD) (n0 : Nat) (κ μ : KH) (o : Int64) (j n : Nat) (hj : j < 16) (h1 : μ 1 j ≠ 0) (y : KH) (hy : y = up μ 0 0 0) (hn : y 0 23 = nI n) (hn8 : n ≤ 8) : HM l D n0 yX5_volume cX5_volume 8 (some .int) 3 68 [.ref (n0 + 113), .int (nI j), .int 6] (κ, μ, o) (some (.int (if y 3 j = 0 then 0 else 1))) (κ, y, o) := by
  refine HM.of (by decide) (by simp [Value.category]) (by simp) (Or.inr (Or.inl ⟨_, .int, rfl, rfl, rfl⟩)) ?_
  intro pp ee ss mm aa bb me cd Q C K hret
  show ZZ pp l ee (rmk 3 68) ss mm aa bb me cd D n0 127 8 0 0 Q _ 0 [some (.ref (n0 + 113)), some (.int (nI j)), some (.int 6), none, none, none, none, none] []
  refine z_aload_n C rfl dX5_volume_0 ?_
  refine z_aload_n C rfl dX5_volume_1 ?_
  refine z_iload_n C rfl dX5_volume_2 ?_
  refine z_callV (As := [.int (nI j)]) (r := (some (.int (b2i (!decide (μ 1 j = 0)))))) (σ1 := (κ, μ, o)) (st := [.ref (n0 + 113)]) (st1 := [.int (b2i (!decide (μ 1 j = 0))), .ref (n0 + 113)]) C K ok_X5_126 (c_X5_isVolume l D n0 κ μ o j (by omega)) enc_M (by decide) rfl rfl ⟨by decide, by decide⟩ ⟨Nat.zero_le _, Nat.zero_le _⟩ (by simp [Value.category]) dX5_volume_3 rfl rfl ?_
  refine z_if_eq (tgt := 19) C dX5_volume_6 (by decide) (fun h_6 => ?_) (fun h_6 => ?_)
  · have g_6 := cv_b0 h_6
    exact absurd g_6 (by simp [h1])
  · have g_6 := cv_b1 h_6
    refine z_iload_n C rfl dX5_volume_9 ?_
    refine z_if_lt (tgt := 19) C dX5_volume_10 (by decide) (fun h_10 => ?_) (fun h_10 => ?_)
    · exact absurd h_10 (by decide +kernel)
    · skip
      refine z_iload_n C rfl dX5_volume_13 ?_
      refine z_bipush (v := 7) C (by decide +kernel) dX5_volume_14 ?_
      refine z_icmp_le (tgt := 23) C dX5_volume_16 (by decide) (fun h_16 => ?_) (fun h_16 => ?_)
      · skip
        refine z_iconst (v := 0) C (by decide +kernel) dX5_volume_23 ?_
        refine pf_X5_51 (x := 0) C dX5_volume_24 ?_
        rw [← hy]
        refine z_aload_n C rfl dX5_volume_27 ?_
        refine gf_X5_51 (v := 0) C (by rw [hy]; exact up_self) dX5_volume_28 ?_
        refine z_if_le (tgt := 36) C dX5_volume_31 (by decide) (fun h_31 => ?_) (fun h_31 => ?_)
        · skip
          refine z_iconst (v := (-1)) C (by decide +kernel) dX5_volume_36 ?_
          refine z_istore_n (ls' := [some (.ref (n0 + 113)), some (.int (nI j)), some (.int 6), some (.int ((-1))), none, none, none, none]) C (by decide) rfl dX5_volume_37 ?_
          refine z_iconst (v := 0) C (by decide +kernel) dX5_volume_38 ?_
          refine z_istore (ls' := [some (.ref (n0 + 113)), some (.int (nI j)), some (.int 6), some (.int ((-1))), some (.int 0), none, none, none]) C (by decide) rfl dX5_volume_39 ?_
          refine z_iconst (v := 0) C (by decide +kernel) dX5_volume_41 ?_
          refine z_istore (ls' := [some (.ref (n0 + 113)), some (.int (nI j)), some (.int 6), some (.int ((-1))), some (.int 0), some (.int 0), none, none]) C (by decide) rfl dX5_volume_42 ?_
          refine z_iconst (v := 0) C (by decide +kernel) dX5_volume_44 ?_
          refine z_istore (ls' := [some (.ref (n0 + 113)), some (.int (nI j)), some (.int 6), some (.int ((-1))), some (.int 0), some (.int 0), some (.int 0), none]) C (by decide) rfl dX5_volume_45 ?_
          refine z_cast (σ1 := (κ, y, o)) (ls' := [some (.ref (n0 + 113)), some (.int (nI j)), some (.int 6), some (.int (mLast y j 0)), some (.int (nI (sumTo (mNs1 y j) 0))), some (.int 0), some (.int (nI 0)), none]) (st' := []) (z_for (P := fun p => ZZ pp l ee (rmk 3 68) ss mm aa bb me cd D n0 127 8 0 0 Q (κ, y, o) 47 [some (.ref (n0 + 113)), some (.int (nI j)), some (.int 6), some (.int (mLast y j p)), some (.int (nI (sumTo (mNs1 y j) p))), some (.int 0), some (.int (nI p)), none] []) (40) ?_ ?_ 0 (Nat.zero_le _)) rfl ⟨rfl, rfl, rfl, (so_int rfl), (so_int rfl), rfl, rfl, trivial⟩ rfl
          · skip
            refine z_iload C rfl dX5_volume_47 ?_
            refine z_bipush (v := 40) C (by decide +kernel) dX5_volume_49 ?_
            refine z_icmp_ge (tgt := 112) C dX5_volume_51 (by decide) (fun h_51 => ?_) (fun h_51 => ?_)
            · have g_51 := cv_le (a := 40) (b := 40) (by omega) (by omega) h_51
              refine z_iconst (v := 0) C (by decide +kernel) dX5_volume_112 ?_
              refine z_istore (ls' := [some (.ref (n0 + 113)), some (.int (nI j)), some (.int 6), some (.int (mLast y j 40)), some (.int (nI (sumTo (mNs1 y j) 40))), some (.int 0), some (.int 0), none]) C (by decide) rfl dX5_volume_113 ?_
              refine z_cast (σ1 := (κ, y, o)) (ls' := [some (.ref (n0 + 113)), some (.int (nI j)), some (.int 6), some (.int (mLast y j 40)), some (.int (nI (sumTo (mNs1 y j) 40))), some (.int (nI (sumTo (mQv1 y j) 0))), some (.int (nI 0)), none]) (st' := []) (z_for (P := fun i => ZZ pp l ee (rmk 3 68) ss mm aa bb me cd D n0 127 8 0 0 Q (κ, y, o) 115 [some (.ref (n0 + 113)), some (.int (nI j)), some (.int 6), some (.int (mLast y j 40)), some (.int (nI (sumTo (mNs1 y j) 40))), some (.int (nI (sumTo (mQv1 y j) i))), some (.int (nI i)), none] []) (n) ?_ ?_ 0 (Nat.zero_le _)) rfl ⟨rfl, rfl, rfl, rfl, rfl, (so_int rfl), rfl, trivial⟩ rfl
              · skip
                refine z_iload C rfl dX5_volume_115 ?_
                refine z_aload_n C rfl dX5_volume_117 ?_
                refine gf_X5_107 (v := nI n) C hn dX5_volume_118 ?_
                refine z_icmp_ge (tgt := 151) C dX5_volume_121 (by decide) (fun h_121 => ?_) (fun h_121 => ?_)
                · have g_121 := cv_le (a := n) (b := n) (by omega) (by omega) h_121
                  refine z_iload_n C rfl dX5_volume_151 ?_
                  refine z_if_ne (tgt := 164) C dX5_volume_152 (by decide) (fun h_152 => ?_) (fun h_152 => ?_)
                  · skip
                    refine z_iload_n C rfl dX5_volume_164 ?_
                    refine z_iconst (v := 1) C (by decide +kernel) dX5_volume_165 ?_
                    refine z_icmp_ne (tgt := 177) C dX5_volume_166 (by decide) (fun h_166 => ?_) (fun h_166 => ?_)
                    · skip
                      refine z_iload_n C rfl dX5_volume_177 ?_
                      refine z_iconst (v := 2) C (by decide +kernel) dX5_volume_178 ?_
                      refine z_icmp_ne (tgt := 186) C dX5_volume_179 (by decide) (fun h_179 => ?_) (fun h_179 => ?_)
                      · skip
                        refine z_iload_n C rfl dX5_volume_186 ?_
                        refine z_iconst (v := 3) C (by decide +kernel) dX5_volume_187 ?_
                        refine z_icmp_ne (tgt := 196) C dX5_volume_188 (by decide) (fun h_188 => ?_) (fun h_188 => ?_)
                        · skip
                          refine z_iload_n C rfl dX5_volume_196 ?_
                          refine z_iconst (v := 4) C (by decide +kernel) dX5_volume_197 ?_
                          refine z_icmp_ne (tgt := 210) C dX5_volume_198 (by decide) (fun h_198 => ?_) (fun h_198 => ?_)
                          · skip
                            refine z_iload_n C rfl dX5_volume_210 ?_
                            refine z_iconst (v := 5) C (by decide +kernel) dX5_volume_211 ?_
                            refine z_icmp_ne (tgt := 220) C dX5_volume_212 (by decide) (fun h_212 => ?_) (fun h_212 => ?_)
                            · skip
                              refine z_iload_n C rfl dX5_volume_220 ?_
                              refine z_bipush (v := 6) C (by decide +kernel) dX5_volume_221 ?_
                              refine z_icmp_ne (tgt := 243) C dX5_volume_223 (by decide) (fun h_223 => ?_) (fun h_223 => ?_)
                              · exact absurd h_223 (by decide +kernel)
                              · skip
                                refine z_aload_n C rfl dX5_volume_226 ?_
                                refine gf_X5_17 C dX5_volume_227 ?_
                                refine z_iload_n C rfl dX5_volume_230 ?_
                                refine al_116 (v := y 3 j) C (j) rfl (by omega) rfl dX5_volume_231 ?_
                                refine z_if_eq (tgt := 239) C dX5_volume_232 (by decide) (fun h_232 => ?_) (fun h_232 => ?_)
                                · skip
                                  refine z_iconst (v := 0) C (by decide +kernel) dX5_volume_239 ?_
                                  refine z_goto (tgt := 249) C dX5_volume_240 (by decide) ?_
                                  exact z_endI (hret _ _ dX5_volume_249) (by rw [if_pos h_232]) rfl
                                · skip
                                  refine z_iconst (v := 1) C (by decide +kernel) dX5_volume_235 ?_
                                  refine z_goto (tgt := 249) C dX5_volume_236 (by decide) ?_
                                  exact z_endI (hret _ _ dX5_volume_249) (by rw [if_neg h_232]) rfl
                            · exact absurd h_212 (by decide +kernel)
                          · exact absurd h_198 (by decide +kernel)
                        · exact absurd h_188 (by decide +kernel)
                      · exact absurd h_179 (by decide +kernel)
                    · exact absurd h_166 (by decide +kernel)
                  · exact absurd h_152 (by decide +kernel)
                · have g_121 := cv_nle (a := n) (b := n) (by omega) (by omega) h_121
                  exact absurd g_121 (by omega)
              · intro i hi_115 ih_115
                refine z_iload C rfl dX5_volume_115 ?_
                refine z_aload_n C rfl dX5_volume_117 ?_
                refine gf_X5_107 (v := nI n) C hn dX5_volume_118 ?_
                refine z_icmp_ge (tgt := 151) C dX5_volume_121 (by decide) (fun h_121 => ?_) (fun h_121 => ?_)
                · have g_121 := cv_le (a := n) (b := i) (by omega) (by omega) h_121
                  exact absurd hi_115 (by omega)
                · have g_121 := cv_nle (a := n) (b := i) (by omega) (by omega) h_121
                  refine z_iload C rfl dX5_volume_124 ?_
                  refine z_aload_n C rfl dX5_volume_126 ?_
                  refine gf_X5_42 C dX5_volume_127 ?_
                  refine z_iload C rfl dX5_volume_130 ?_
                  refine al_123 (v := y 10 i) C (i) rfl (by omega) rfl dX5_volume_132 ?_
                  refine z_iload_n C rfl dX5_volume_133 ?_
                  refine z_icmp_ne (tgt := 141) C dX5_volume_134 (by decide) (fun h_134 => ?_) (fun h_134 => ?_)
                  · skip
                    refine z_iconst (v := 0) C (by decide +kernel) dX5_volume_141 ?_
                    refine z_iadd (v := nI (sumTo (mQv1 y j) i + 0)) C (cv_add (sumTo (mQv1 y j) i) 0) dX5_volume_142 ?_
                    refine z_istore (ls' := [some (.ref (n0 + 113)), some (.int (nI j)), some (.int 6), some (.int (mLast y j 40)), some (.int (nI (sumTo (mNs1 y j) 40))), some (.int (nI (sumTo (mQv1 y j) i + 0))), some (.int (nI i)), none]) C (by decide) rfl dX5_volume_143 ?_
                    refine z_iinc (v := nI (i + 1)) (ls' := [some (.ref (n0 + 113)), some (.int (nI j)), some (.int 6), some (.int (mLast y j 40)), some (.int (nI (sumTo (mNs1 y j) 40))), some (.int (nI (sumTo (mQv1 y j) i + 0))), some (.int (nI (i + 1))), none]) C rfl (cv_inc i 1) (by decide) rfl dX5_volume_145 ?_
                    refine z_goto (tgt := 115) C dX5_volume_148 (by decide) ?_
                    exact z_cast (σ1 := (κ, y, o)) (ls' := [some (.ref (n0 + 113)), some (.int (nI j)), some (.int 6), some (.int (mLast y j 40)), some (.int (nI (sumTo (mNs1 y j) 40))), some (.int (nI (sumTo (mQv1 y j) (i + 1)))), some (.int (nI (i + 1))), none]) (st' := []) (ih_115) rfl ⟨rfl, rfl, rfl, rfl, rfl, (so_int (by simp [sumTo, mQv1, h_134])), rfl, trivial⟩ rfl
                  · skip
                    refine z_iconst (v := 1) C (by decide +kernel) dX5_volume_137 ?_
                    refine z_goto (tgt := 142) C dX5_volume_138 (by decide) ?_
                    refine z_iadd (v := nI (sumTo (mQv1 y j) i + 1)) C (cv_add (sumTo (mQv1 y j) i) 1) dX5_volume_142 ?_
                    refine z_istore (ls' := [some (.ref (n0 + 113)), some (.int (nI j)), some (.int 6), some (.int (mLast y j 40)), some (.int (nI (sumTo (mNs1 y j) 40))), some (.int (nI (sumTo (mQv1 y j) i + 1))), some (.int (nI i)), none]) C (by decide) rfl dX5_volume_143 ?_
                    refine z_iinc (v := nI (i + 1)) (ls' := [some (.ref (n0 + 113)), some (.int (nI j)), some (.int 6), some (.int (mLast y j 40)), some (.int (nI (sumTo (mNs1 y j) 40))), some (.int (nI (sumTo (mQv1 y j) i + 1))), some (.int (nI (i + 1))), none]) C rfl (cv_inc i 1) (by decide) rfl dX5_volume_145 ?_
                    refine z_goto (tgt := 115) C dX5_volume_148 (by decide) ?_
                    exact z_cast (σ1 := (κ, y, o)) (ls' := [some (.ref (n0 + 113)), some (.int (nI j)), some (.int 6), some (.int (mLast y j 40)), some (.int (nI (sumTo (mNs1 y j) 40))), some (.int (nI (sumTo (mQv1 y j) (i + 1)))), some (.int (nI (i + 1))), none]) (st' := []) (ih_115) rfl ⟨rfl, rfl, rfl, rfl, rfl, (so_int (by simp [sumTo, mQv1, h_134])), rfl, trivial⟩ rfl
            · have g_51 := cv_nle (a := 40) (b := 40) (by omega) (by omega) h_51
              exact absurd g_51 (by omega)
          · intro p hi_47 ih_47
            refine z_iload C rfl dX5_volume_47 ?_
            refine z_bipush (v := 40) C (by decide +kernel) dX5_volume_49 ?_
            refine z_icmp_ge (tgt := 112) C dX5_volume_51 (by decide) (fun h_51 => ?_) (fun h_51 => ?_)
            · have g_51 := cv_le (a := 40) (b := p) (by omega) (by omega) h_51
              exact absurd hi_47 (by omega)
            · have g_51 := cv_nle (a := 40) (b := p) (by omega) (by omega) h_51
              refine z_aload_n C rfl dX5_volume_54 ?_
              refine gf_X5_26 C dX5_volume_55 ?_
              refine z_iconst (v := 0) C (by decide +kernel) dX5_volume_58 ?_
              refine z_iload_n C rfl dX5_volume_59 ?_
              refine z_iload C rfl dX5_volume_60 ?_
              refine z_callS (As := [.int 0, .int (nI j), .int (nI p)]) (r := (some (.int (nI (40 * j + p))))) (σ1 := (κ, y, o)) (st := [.ref (n0 + 119)]) (st1 := [.int (nI (40 * j + p)), .ref (n0 + 119)]) C K ok_X5_58 (c_X5_at0 l D n0 κ y o j p) rfl ⟨by decide, by decide⟩ ⟨Nat.zero_le _, Nat.zero_le _⟩ (by simp [Value.category]) dX5_volume_62 rfl rfl ?_
              refine al_119 (v := y 6 (40 * j + p)) C (40 * j + p) rfl (by omega) rfl dX5_volume_65 ?_
              refine z_istore (ls' := [some (.ref (n0 + 113)), some (.int (nI j)), some (.int 6), some (.int (mLast y j p)), some (.int (nI (sumTo (mNs1 y j) p))), some (.int 0), some (.int (nI p)), some (.int (y 6 (40 * j + p)))]) C (by decide) rfl dX5_volume_66 ?_
              refine z_iload C rfl dX5_volume_68 ?_
              refine z_iconst (v := (-1)) C (by decide +kernel) dX5_volume_70 ?_
              refine z_icmp_eq (tgt := 79) C dX5_volume_71 (by decide) (fun h_71 => ?_) (fun h_71 => ?_)
              · skip
                refine z_iload_n C rfl dX5_volume_79 ?_
                refine z_istore_n (ls' := [some (.ref (n0 + 113)), some (.int (nI j)), some (.int 6), some (.int (mLast y j p)), some (.int (nI (sumTo (mNs1 y j) p))), some (.int 0), some (.int (nI p)), some (.int (y 6 (40 * j + p)))]) C (by decide) rfl dX5_volume_80 ?_
                refine z_iload C rfl dX5_volume_81 ?_
                refine z_iload C rfl dX5_volume_83 ?_
                refine z_iconst (v := (-1)) C (by decide +kernel) dX5_volume_85 ?_
                refine z_icmp_eq (tgt := 102) C dX5_volume_86 (by decide) (fun h_86 => ?_) (fun h_86 => ?_)
                · skip
                  refine z_iconst (v := 0) C (by decide +kernel) dX5_volume_102 ?_
                  refine z_iadd (v := nI (sumTo (mNs1 y j) p + 0)) C (cv_add (sumTo (mNs1 y j) p) 0) dX5_volume_103 ?_
                  refine z_istore (ls' := [some (.ref (n0 + 113)), some (.int (nI j)), some (.int 6), some (.int (mLast y j p)), some (.int (nI (sumTo (mNs1 y j) p + 0))), some (.int 0), some (.int (nI p)), some (.int (y 6 (40 * j + p)))]) C (by decide) rfl dX5_volume_104 ?_
                  refine z_iinc (v := nI (p + 1)) (ls' := [some (.ref (n0 + 113)), some (.int (nI j)), some (.int 6), some (.int (mLast y j p)), some (.int (nI (sumTo (mNs1 y j) p + 0))), some (.int 0), some (.int (nI (p + 1))), some (.int (y 6 (40 * j + p)))]) C rfl (cv_inc p 1) (by decide) rfl dX5_volume_106 ?_
                  refine z_goto (tgt := 47) C dX5_volume_109 (by decide) ?_
                  exact z_cast (σ1 := (κ, y, o)) (ls' := [some (.ref (n0 + 113)), some (.int (nI j)), some (.int 6), some (.int (mLast y j (p + 1))), some (.int (nI (sumTo (mNs1 y j) (p + 1)))), some (.int 0), some (.int (nI (p + 1))), none]) (st' := []) (ih_47) rfl ⟨rfl, rfl, rfl, (so_int (by simp [mLast, sumTo, mNs1, h_71])), (so_int (by simp [mLast, sumTo, mNs1, h_71])), rfl, rfl, trivial⟩ rfl
                · exact absurd h_71 h_86
              · skip
                refine z_iload C rfl dX5_volume_74 ?_
                refine z_goto (tgt := 80) C dX5_volume_76 (by decide) ?_
                refine z_istore_n (ls' := [some (.ref (n0 + 113)), some (.int (nI j)), some (.int 6), some (.int (nI p)), some (.int (nI (sumTo (mNs1 y j) p))), some (.int 0), some (.int (nI p)), some (.int (y 6 (40 * j + p)))]) C (by decide) rfl dX5_volume_80 ?_
                refine z_iload C rfl dX5_volume_81 ?_
                refine z_iload C rfl dX5_volume_83 ?_
                refine z_iconst (v := (-1)) C (by decide +kernel) dX5_volume_85 ?_
                refine z_icmp_eq (tgt := 102) C dX5_volume_86 (by decide) (fun h_86 => ?_) (fun h_86 => ?_)
                · exact absurd h_86 h_71
                · skip
                  refine z_aload_n C rfl dX5_volume_89 ?_
                  refine z_iload C rfl dX5_volume_90 ?_
                  refine z_callV (As := [.int (y 6 (40 * j + p))]) (r := (some (.int (b2i (mSole y (y 6 (40 * j + p))))))) (σ1 := (κ, y, o)) (st := [.int (nI (sumTo (mNs1 y j) p))]) (st1 := [.int (b2i (mSole y (y 6 (40 * j + p)))), .int (nI (sumTo (mNs1 y j) p))]) C K ok_X5_73 (c_X5_isSole l D n0 κ y o (y 6 (40 * j + p))) enc_M (by decide) rfl rfl ⟨by decide, by decide⟩ ⟨Nat.zero_le _, Nat.zero_le _⟩ (by simp [Value.category]) dX5_volume_92 rfl rfl ?_
                  refine z_if_ne (tgt := 102) C dX5_volume_95 (by decide) (fun h_95 => ?_) (fun h_95 => ?_)
                  · have g_95 := cv_b1 h_95
                    refine z_iconst (v := 0) C (by decide +kernel) dX5_volume_102 ?_
                    refine z_iadd (v := nI (sumTo (mNs1 y j) p + 0)) C (cv_add (sumTo (mNs1 y j) p) 0) dX5_volume_103 ?_
                    refine z_istore (ls' := [some (.ref (n0 + 113)), some (.int (nI j)), some (.int 6), some (.int (nI p)), some (.int (nI (sumTo (mNs1 y j) p + 0))), some (.int 0), some (.int (nI p)), some (.int (y 6 (40 * j + p)))]) C (by decide) rfl dX5_volume_104 ?_
                    refine z_iinc (v := nI (p + 1)) (ls' := [some (.ref (n0 + 113)), some (.int (nI j)), some (.int 6), some (.int (nI p)), some (.int (nI (sumTo (mNs1 y j) p + 0))), some (.int 0), some (.int (nI (p + 1))), some (.int (y 6 (40 * j + p)))]) C rfl (cv_inc p 1) (by decide) rfl dX5_volume_106 ?_
                    refine z_goto (tgt := 47) C dX5_volume_109 (by decide) ?_
                    exact z_cast (σ1 := (κ, y, o)) (ls' := [some (.ref (n0 + 113)), some (.int (nI j)), some (.int 6), some (.int (mLast y j (p + 1))), some (.int (nI (sumTo (mNs1 y j) (p + 1)))), some (.int 0), some (.int (nI (p + 1))), none]) (st' := []) (ih_47) rfl ⟨rfl, rfl, rfl, (so_int (by simp [mLast, sumTo, mNs1, h_71, g_95])), (so_int (by simp [mLast, sumTo, mNs1, h_71, g_95])), rfl, rfl, trivial⟩ rfl
                  · have g_95 := cv_b0 h_95
                    refine z_iconst (v := 1) C (by decide +kernel) dX5_volume_98 ?_
                    refine z_goto (tgt := 103) C dX5_volume_99 (by decide) ?_
                    refine z_iadd (v := nI (sumTo (mNs1 y j) p + 1)) C (cv_add (sumTo (mNs1 y j) p) 1) dX5_volume_103 ?_
                    refine z_istore (ls' := [some (.ref (n0 + 113)), some (.int (nI j)), some (.int 6), some (.int (nI p)), some (.int (nI (sumTo (mNs1 y j) p + 1))), some (.int 0), some (.int (nI p)), some (.int (y 6 (40 * j + p)))]) C (by decide) rfl dX5_volume_104 ?_
                    refine z_iinc (v := nI (p + 1)) (ls' := [some (.ref (n0 + 113)), some (.int (nI j)), some (.int 6), some (.int (nI p)), some (.int (nI (sumTo (mNs1 y j) p + 1))), some (.int 0), some (.int (nI (p + 1))), some (.int (y 6 (40 * j + p)))]) C rfl (cv_inc p 1) (by decide) rfl dX5_volume_106 ?_
                    refine z_goto (tgt := 47) C dX5_volume_109 (by decide) ?_
                    exact z_cast (σ1 := (κ, y, o)) (ls' := [some (.ref (n0 + 113)), some (.int (nI j)), some (.int 6), some (.int (mLast y j (p + 1))), some (.int (nI (sumTo (mNs1 y j) (p + 1)))), some (.int 0), some (.int (nI (p + 1))), none]) (st' := []) (ih_47) rfl ⟨rfl, rfl, rfl, (so_int (by simp [mLast, sumTo, mNs1, h_71, g_95])), (so_int (by simp [mLast, sumTo, mNs1, h_71, g_95])), rfl, rfl, trivial⟩ rfl
        · exact absurd h_31 (by decide +kernel)
      · exact absurd h_16 (by decide +kernel)
set_option maxHeartbeats 4000000 in
set_option maxRecDepth 100000 in
theorem c_X5_volume_7 (l : Launch) (D : DD) (n0 : Nat) (κ μ : KH) (o : Int64) (j n : Nat) (hj : j < 16) (h1 : μ 1 j ≠ 0) (y : KH) (hy : y = up μ 0 0 0) (hn : y 0 23 = nI n) (hn8 : n ≤ 8) : HM l D n0 yX5_volume cX5_volume 8 (some .int) 3 68 [.ref (n0 + 113), .int (nI j), .int 7] (κ, μ, o) (some (.int (y 4 j))) (κ, y, o) := by
  refine HM.of (by decide) (by simp [Value.category]) (by simp) (Or.inr (Or.inl ⟨_, .int, rfl, rfl, rfl⟩)) ?_
  intro pp ee ss mm aa bb me cd Q C K hret
  show ZZ pp l ee (rmk 3 68) ss mm aa bb me cd D n0 127 8 0 0 Q _ 0 [some (.ref (n0 + 113)), some (.int (nI j)), some (.int 7), none, none, none, none, none] []
  refine z_aload_n C rfl dX5_volume_0 ?_
  refine z_aload_n C rfl dX5_volume_1 ?_
  refine z_iload_n C rfl dX5_volume_2 ?_
  refine z_callV (As := [.int (nI j)]) (r := (some (.int (b2i (!decide (μ 1 j = 0)))))) (σ1 := (κ, μ, o)) (st := [.ref (n0 + 113)]) (st1 := [.int (b2i (!decide (μ 1 j = 0))), .ref (n0 + 113)]) C K ok_X5_126 (c_X5_isVolume l D n0 κ μ o j (by omega)) enc_M (by decide) rfl rfl ⟨by decide, by decide⟩ ⟨Nat.zero_le _, Nat.zero_le _⟩ (by simp [Value.category]) dX5_volume_3 rfl rfl ?_
  refine z_if_eq (tgt := 19) C dX5_volume_6 (by decide) (fun h_6 => ?_) (fun h_6 => ?_)
  · have g_6 := cv_b0 h_6
    exact absurd g_6 (by simp [h1])
  · have g_6 := cv_b1 h_6
    refine z_iload_n C rfl dX5_volume_9 ?_
    refine z_if_lt (tgt := 19) C dX5_volume_10 (by decide) (fun h_10 => ?_) (fun h_10 => ?_)
    · exact absurd h_10 (by decide +kernel)
    · skip
      refine z_iload_n C rfl dX5_volume_13 ?_
      refine z_bipush (v := 7) C (by decide +kernel) dX5_volume_14 ?_
      refine z_icmp_le (tgt := 23) C dX5_volume_16 (by decide) (fun h_16 => ?_) (fun h_16 => ?_)
      · skip
        refine z_iconst (v := 0) C (by decide +kernel) dX5_volume_23 ?_
        refine pf_X5_51 (x := 0) C dX5_volume_24 ?_
        rw [← hy]
        refine z_aload_n C rfl dX5_volume_27 ?_
        refine gf_X5_51 (v := 0) C (by rw [hy]; exact up_self) dX5_volume_28 ?_
        refine z_if_le (tgt := 36) C dX5_volume_31 (by decide) (fun h_31 => ?_) (fun h_31 => ?_)
        · skip
          refine z_iconst (v := (-1)) C (by decide +kernel) dX5_volume_36 ?_
          refine z_istore_n (ls' := [some (.ref (n0 + 113)), some (.int (nI j)), some (.int 7), some (.int ((-1))), none, none, none, none]) C (by decide) rfl dX5_volume_37 ?_
          refine z_iconst (v := 0) C (by decide +kernel) dX5_volume_38 ?_
          refine z_istore (ls' := [some (.ref (n0 + 113)), some (.int (nI j)), some (.int 7), some (.int ((-1))), some (.int 0), none, none, none]) C (by decide) rfl dX5_volume_39 ?_
          refine z_iconst (v := 0) C (by decide +kernel) dX5_volume_41 ?_
          refine z_istore (ls' := [some (.ref (n0 + 113)), some (.int (nI j)), some (.int 7), some (.int ((-1))), some (.int 0), some (.int 0), none, none]) C (by decide) rfl dX5_volume_42 ?_
          refine z_iconst (v := 0) C (by decide +kernel) dX5_volume_44 ?_
          refine z_istore (ls' := [some (.ref (n0 + 113)), some (.int (nI j)), some (.int 7), some (.int ((-1))), some (.int 0), some (.int 0), some (.int 0), none]) C (by decide) rfl dX5_volume_45 ?_
          refine z_cast (σ1 := (κ, y, o)) (ls' := [some (.ref (n0 + 113)), some (.int (nI j)), some (.int 7), some (.int (mLast y j 0)), some (.int (nI (sumTo (mNs1 y j) 0))), some (.int 0), some (.int (nI 0)), none]) (st' := []) (z_for (P := fun p => ZZ pp l ee (rmk 3 68) ss mm aa bb me cd D n0 127 8 0 0 Q (κ, y, o) 47 [some (.ref (n0 + 113)), some (.int (nI j)), some (.int 7), some (.int (mLast y j p)), some (.int (nI (sumTo (mNs1 y j) p))), some (.int 0), some (.int (nI p)), none] []) (40) ?_ ?_ 0 (Nat.zero_le _)) rfl ⟨rfl, rfl, rfl, (so_int rfl), (so_int rfl), rfl, rfl, trivial⟩ rfl
          · skip
            refine z_iload C rfl dX5_volume_47 ?_
            refine z_bipush (v := 40) C (by decide +kernel) dX5_volume_49 ?_
            refine z_icmp_ge (tgt := 112) C dX5_volume_51 (by decide) (fun h_51 => ?_) (fun h_51 => ?_)
            · have g_51 := cv_le (a := 40) (b := 40) (by omega) (by omega) h_51
              refine z_iconst (v := 0) C (by decide +kernel) dX5_volume_112 ?_
              refine z_istore (ls' := [some (.ref (n0 + 113)), some (.int (nI j)), some (.int 7), some (.int (mLast y j 40)), some (.int (nI (sumTo (mNs1 y j) 40))), some (.int 0), some (.int 0), none]) C (by decide) rfl dX5_volume_113 ?_
              refine z_cast (σ1 := (κ, y, o)) (ls' := [some (.ref (n0 + 113)), some (.int (nI j)), some (.int 7), some (.int (mLast y j 40)), some (.int (nI (sumTo (mNs1 y j) 40))), some (.int (nI (sumTo (mQv1 y j) 0))), some (.int (nI 0)), none]) (st' := []) (z_for (P := fun i => ZZ pp l ee (rmk 3 68) ss mm aa bb me cd D n0 127 8 0 0 Q (κ, y, o) 115 [some (.ref (n0 + 113)), some (.int (nI j)), some (.int 7), some (.int (mLast y j 40)), some (.int (nI (sumTo (mNs1 y j) 40))), some (.int (nI (sumTo (mQv1 y j) i))), some (.int (nI i)), none] []) (n) ?_ ?_ 0 (Nat.zero_le _)) rfl ⟨rfl, rfl, rfl, rfl, rfl, (so_int rfl), rfl, trivial⟩ rfl
              · skip
                refine z_iload C rfl dX5_volume_115 ?_
                refine z_aload_n C rfl dX5_volume_117 ?_
                refine gf_X5_107 (v := nI n) C hn dX5_volume_118 ?_
                refine z_icmp_ge (tgt := 151) C dX5_volume_121 (by decide) (fun h_121 => ?_) (fun h_121 => ?_)
                · have g_121 := cv_le (a := n) (b := n) (by omega) (by omega) h_121
                  refine z_iload_n C rfl dX5_volume_151 ?_
                  refine z_if_ne (tgt := 164) C dX5_volume_152 (by decide) (fun h_152 => ?_) (fun h_152 => ?_)
                  · skip
                    refine z_iload_n C rfl dX5_volume_164 ?_
                    refine z_iconst (v := 1) C (by decide +kernel) dX5_volume_165 ?_
                    refine z_icmp_ne (tgt := 177) C dX5_volume_166 (by decide) (fun h_166 => ?_) (fun h_166 => ?_)
                    · skip
                      refine z_iload_n C rfl dX5_volume_177 ?_
                      refine z_iconst (v := 2) C (by decide +kernel) dX5_volume_178 ?_
                      refine z_icmp_ne (tgt := 186) C dX5_volume_179 (by decide) (fun h_179 => ?_) (fun h_179 => ?_)
                      · skip
                        refine z_iload_n C rfl dX5_volume_186 ?_
                        refine z_iconst (v := 3) C (by decide +kernel) dX5_volume_187 ?_
                        refine z_icmp_ne (tgt := 196) C dX5_volume_188 (by decide) (fun h_188 => ?_) (fun h_188 => ?_)
                        · skip
                          refine z_iload_n C rfl dX5_volume_196 ?_
                          refine z_iconst (v := 4) C (by decide +kernel) dX5_volume_197 ?_
                          refine z_icmp_ne (tgt := 210) C dX5_volume_198 (by decide) (fun h_198 => ?_) (fun h_198 => ?_)
                          · skip
                            refine z_iload_n C rfl dX5_volume_210 ?_
                            refine z_iconst (v := 5) C (by decide +kernel) dX5_volume_211 ?_
                            refine z_icmp_ne (tgt := 220) C dX5_volume_212 (by decide) (fun h_212 => ?_) (fun h_212 => ?_)
                            · skip
                              refine z_iload_n C rfl dX5_volume_220 ?_
                              refine z_bipush (v := 6) C (by decide +kernel) dX5_volume_221 ?_
                              refine z_icmp_ne (tgt := 243) C dX5_volume_223 (by decide) (fun h_223 => ?_) (fun h_223 => ?_)
                              · skip
                                refine z_aload_n C rfl dX5_volume_243 ?_
                                refine gf_X5_20 C dX5_volume_244 ?_
                                refine z_iload_n C rfl dX5_volume_247 ?_
                                refine al_117 (v := y 4 j) C (j) rfl (by omega) rfl dX5_volume_248 ?_
                                exact z_endI (hret _ _ dX5_volume_249) rfl rfl
                              · exact absurd h_223 (by decide +kernel)
                            · exact absurd h_212 (by decide +kernel)
                          · exact absurd h_198 (by decide +kernel)
                        · exact absurd h_188 (by decide +kernel)
                      · exact absurd h_179 (by decide +kernel)
                    · exact absurd h_166 (by decide +kernel)
                  · exact absurd h_152 (by decide +kernel)
                · have g_121 := cv_nle (a := n) (b := n) (by omega) (by omega) h_121
                  exact absurd g_121 (by omega)
              · intro i hi_115 ih_115
                refine z_iload C rfl dX5_volume_115 ?_
                refine z_aload_n C rfl dX5_volume_117 ?_
                refine gf_X5_107 (v := nI n) C hn dX5_volume_118 ?_
                refine z_icmp_ge (tgt := 151) C dX5_volume_121 (by decide) (fun h_121 => ?_) (fun h_121 => ?_)
                · have g_121 := cv_le (a := n) (b := i) (by omega) (by omega) h_121
                  exact absurd hi_115 (by omega)
                · have g_121 := cv_nle (a := n) (b := i) (by omega) (by omega) h_121
                  refine z_iload C rfl dX5_volume_124 ?_
                  refine z_aload_n C rfl dX5_volume_126 ?_
                  refine gf_X5_42 C dX5_volume_127 ?_
                  refine z_iload C rfl dX5_volume_130 ?_
                  refine al_123 (v := y 10 i) C (i) rfl (by omega) rfl dX5_volume_132 ?_
                  refine z_iload_n C rfl dX5_volume_133 ?_
                  refine z_icmp_ne (tgt := 141) C dX5_volume_134 (by decide) (fun h_134 => ?_) (fun h_134 => ?_)
                  · skip
                    refine z_iconst (v := 0) C (by decide +kernel) dX5_volume_141 ?_
                    refine z_iadd (v := nI (sumTo (mQv1 y j) i + 0)) C (cv_add (sumTo (mQv1 y j) i) 0) dX5_volume_142 ?_
                    refine z_istore (ls' := [some (.ref (n0 + 113)), some (.int (nI j)), some (.int 7), some (.int (mLast y j 40)), some (.int (nI (sumTo (mNs1 y j) 40))), some (.int (nI (sumTo (mQv1 y j) i + 0))), some (.int (nI i)), none]) C (by decide) rfl dX5_volume_143 ?_
                    refine z_iinc (v := nI (i + 1)) (ls' := [some (.ref (n0 + 113)), some (.int (nI j)), some (.int 7), some (.int (mLast y j 40)), some (.int (nI (sumTo (mNs1 y j) 40))), some (.int (nI (sumTo (mQv1 y j) i + 0))), some (.int (nI (i + 1))), none]) C rfl (cv_inc i 1) (by decide) rfl dX5_volume_145 ?_
                    refine z_goto (tgt := 115) C dX5_volume_148 (by decide) ?_
                    exact z_cast (σ1 := (κ, y, o)) (ls' := [some (.ref (n0 + 113)), some (.int (nI j)), some (.int 7), some (.int (mLast y j 40)), some (.int (nI (sumTo (mNs1 y j) 40))), some (.int (nI (sumTo (mQv1 y j) (i + 1)))), some (.int (nI (i + 1))), none]) (st' := []) (ih_115) rfl ⟨rfl, rfl, rfl, rfl, rfl, (so_int (by simp [sumTo, mQv1, h_134])), rfl, trivial⟩ rfl
                  · skip
                    refine z_iconst (v := 1) C (by decide +kernel) dX5_volume_137 ?_
                    refine z_goto (tgt := 142) C dX5_volume_138 (by decide) ?_
                    refine z_iadd (v := nI (sumTo (mQv1 y j) i + 1)) C (cv_add (sumTo (mQv1 y j) i) 1) dX5_volume_142 ?_
                    refine z_istore (ls' := [some (.ref (n0 + 113)), some (.int (nI j)), some (.int 7), some (.int (mLast y j 40)), some (.int (nI (sumTo (mNs1 y j) 40))), some (.int (nI (sumTo (mQv1 y j) i + 1))), some (.int (nI i)), none]) C (by decide) rfl dX5_volume_143 ?_
                    refine z_iinc (v := nI (i + 1)) (ls' := [some (.ref (n0 + 113)), some (.int (nI j)), some (.int 7), some (.int (mLast y j 40)), some (.int (nI (sumTo (mNs1 y j) 40))), some (.int (nI (sumTo (mQv1 y j) i + 1))), some (.int (nI (i + 1))), none]) C rfl (cv_inc i 1) (by decide) rfl dX5_volume_145 ?_
                    refine z_goto (tgt := 115) C dX5_volume_148 (by decide) ?_
                    exact z_cast (σ1 := (κ, y, o)) (ls' := [some (.ref (n0 + 113)), some (.int (nI j)), some (.int 7), some (.int (mLast y j 40)), some (.int (nI (sumTo (mNs1 y j) 40))), some (.int (nI (sumTo (mQv1 y j) (i + 1)))), some (.int (nI (i + 1))), none]) (st' := []) (ih_115) rfl ⟨rfl, rfl, rfl, rfl, rfl, (so_int (by simp [sumTo, mQv1, h_134])), rfl, trivial⟩ rfl
            · have g_51 := cv_nle (a := 40) (b := 40) (by omega) (by omega) h_51
              exact absurd g_51 (by omega)
          · intro p hi_47 ih_47
            refine z_iload C rfl dX5_volume_47 ?_
            refine z_bipush (v := 40) C (by decide +kernel) dX5_volume_49 ?_
            refine z_icmp_ge (tgt := 112) C dX5_volume_51 (by decide) (fun h_51 => ?_) (fun h_51 => ?_)
            · have g_51 := cv_le (a := 40) (b := p) (by omega) (by omega) h_51
              exact absurd hi_47 (by omega)
            · have g_51 := cv_nle (a := 40) (b := p) (by omega) (by omega) h_51
              refine z_aload_n C rfl dX5_volume_54 ?_
              refine gf_X5_26 C dX5_volume_55 ?_
              refine z_iconst (v := 0) C (by decide +kernel) dX5_volume_58 ?_
              refine z_iload_n C rfl dX5_volume_59 ?_
              refine z_iload C rfl dX5_volume_60 ?_
              refine z_callS (As := [.int 0, .int (nI j), .int (nI p)]) (r := (some (.int (nI (40 * j + p))))) (σ1 := (κ, y, o)) (st := [.ref (n0 + 119)]) (st1 := [.int (nI (40 * j + p)), .ref (n0 + 119)]) C K ok_X5_58 (c_X5_at0 l D n0 κ y o j p) rfl ⟨by decide, by decide⟩ ⟨Nat.zero_le _, Nat.zero_le _⟩ (by simp [Value.category]) dX5_volume_62 rfl rfl ?_
              refine al_119 (v := y 6 (40 * j + p)) C (40 * j + p) rfl (by omega) rfl dX5_volume_65 ?_
              refine z_istore (ls' := [some (.ref (n0 + 113)), some (.int (nI j)), some (.int 7), some (.int (mLast y j p)), some (.int (nI (sumTo (mNs1 y j) p))), some (.int 0), some (.int (nI p)), some (.int (y 6 (40 * j + p)))]) C (by decide) rfl dX5_volume_66 ?_
              refine z_iload C rfl dX5_volume_68 ?_
              refine z_iconst (v := (-1)) C (by decide +kernel) dX5_volume_70 ?_
              refine z_icmp_eq (tgt := 79) C dX5_volume_71 (by decide) (fun h_71 => ?_) (fun h_71 => ?_)
              · skip
                refine z_iload_n C rfl dX5_volume_79 ?_
                refine z_istore_n (ls' := [some (.ref (n0 + 113)), some (.int (nI j)), some (.int 7), some (.int (mLast y j p)), some (.int (nI (sumTo (mNs1 y j) p))), some (.int 0), some (.int (nI p)), some (.int (y 6 (40 * j + p)))]) C (by decide) rfl dX5_volume_80 ?_
                refine z_iload C rfl dX5_volume_81 ?_
                refine z_iload C rfl dX5_volume_83 ?_
                refine z_iconst (v := (-1)) C (by decide +kernel) dX5_volume_85 ?_
                refine z_icmp_eq (tgt := 102) C dX5_volume_86 (by decide) (fun h_86 => ?_) (fun h_86 => ?_)
                · skip
                  refine z_iconst (v := 0) C (by decide +kernel) dX5_volume_102 ?_
                  refine z_iadd (v := nI (sumTo (mNs1 y j) p + 0)) C (cv_add (sumTo (mNs1 y j) p) 0) dX5_volume_103 ?_
                  refine z_istore (ls' := [some (.ref (n0 + 113)), some (.int (nI j)), some (.int 7), some (.int (mLast y j p)), some (.int (nI (sumTo (mNs1 y j) p + 0))), some (.int 0), some (.int (nI p)), some (.int (y 6 (40 * j + p)))]) C (by decide) rfl dX5_volume_104 ?_
                  refine z_iinc (v := nI (p + 1)) (ls' := [some (.ref (n0 + 113)), some (.int (nI j)), some (.int 7), some (.int (mLast y j p)), some (.int (nI (sumTo (mNs1 y j) p + 0))), some (.int 0), some (.int (nI (p + 1))), some (.int (y 6 (40 * j + p)))]) C rfl (cv_inc p 1) (by decide) rfl dX5_volume_106 ?_
                  refine z_goto (tgt := 47) C dX5_volume_109 (by decide) ?_
                  exact z_cast (σ1 := (κ, y, o)) (ls' := [some (.ref (n0 + 113)), some (.int (nI j)), some (.int 7), some (.int (mLast y j (p + 1))), some (.int (nI (sumTo (mNs1 y j) (p + 1)))), some (.int 0), some (.int (nI (p + 1))), none]) (st' := []) (ih_47) rfl ⟨rfl, rfl, rfl, (so_int (by simp [mLast, sumTo, mNs1, h_71])), (so_int (by simp [mLast, sumTo, mNs1, h_71])), rfl, rfl, trivial⟩ rfl
                · exact absurd h_71 h_86
              · skip
                refine z_iload C rfl dX5_volume_74 ?_
                refine z_goto (tgt := 80) C dX5_volume_76 (by decide) ?_
                refine z_istore_n (ls' := [some (.ref (n0 + 113)), some (.int (nI j)), some (.int 7), some (.int (nI p)), some (.int (nI (sumTo (mNs1 y j) p))), some (.int 0), some (.int (nI p)), some (.int (y 6 (40 * j + p)))]) C (by decide) rfl dX5_volume_80 ?_
                refine z_iload C rfl dX5_volume_81 ?_
                refine z_iload C rfl dX5_volume_83 ?_
                refine z_iconst (v := (-1)) C (by decide +kernel) dX5_volume_85 ?_
                refine z_icmp_eq (tgt := 102) C dX5_volume_86 (by decide) (fun h_86 => ?_) (fun h_86 => ?_)
                · exact absurd h_86 h_71
                · skip
                  refine z_aload_n C rfl dX5_volume_89 ?_
                  refine z_iload C rfl dX5_volume_90 ?_
                  refine z_callV (As := [.int (y 6 (40 * j + p))]) (r := (some (.int (b2i (mSole y (y 6 (40 * j + p))))))) (σ1 := (κ, y, o)) (st := [.int (nI (sumTo (mNs1 y j) p))]) (st1 := [.int (b2i (mSole y (y 6 (40 * j + p)))), .int (nI (sumTo (mNs1 y j) p))]) C K ok_X5_73 (c_X5_isSole l D n0 κ y o (y 6 (40 * j + p))) enc_M (by decide) rfl rfl ⟨by decide, by decide⟩ ⟨Nat.zero_le _, Nat.zero_le _⟩ (by simp [Value.category]) dX5_volume_92 rfl rfl ?_
                  refine z_if_ne (tgt := 102) C dX5_volume_95 (by decide) (fun h_95 => ?_) (fun h_95 => ?_)
                  · have g_95 := cv_b1 h_95
                    refine z_iconst (v := 0) C (by decide +kernel) dX5_volume_102 ?_
                    refine z_iadd (v := nI (sumTo (mNs1 y j) p + 0)) C (cv_add (sumTo (mNs1 y j) p) 0) dX5_volume_103 ?_
                    refine z_istore (ls' := [some (.ref (n0 + 113)), some (.int (nI j)), some (.int 7), some (.int (nI p)), some (.int (nI (sumTo (mNs1 y j) p + 0))), some (.int 0), some (.int (nI p)), some (.int (y 6 (40 * j + p)))]) C (by decide) rfl dX5_volume_104 ?_
                    refine z_iinc (v := nI (p + 1)) (ls' := [some (.ref (n0 + 113)), some (.int (nI j)), some (.int 7), some (.int (nI p)), some (.int (nI (sumTo (mNs1 y j) p + 0))), some (.int 0), some (.int (nI (p + 1))), some (.int (y 6 (40 * j + p)))]) C rfl (cv_inc p 1) (by decide) rfl dX5_volume_106 ?_
                    refine z_goto (tgt := 47) C dX5_volume_109 (by decide) ?_
                    exact z_cast (σ1 := (κ, y, o)) (ls' := [some (.ref (n0 + 113)), some (.int (nI j)), some (.int 7), some (.int (mLast y j (p + 1))), some (.int (nI (sumTo (mNs1 y j) (p + 1)))), some (.int 0), some (.int (nI (p + 1))), none]) (st' := []) (ih_47) rfl ⟨rfl, rfl, rfl, (so_int (by simp [mLast, sumTo, mNs1, h_71, g_95])), (so_int (by simp [mLast, sumTo, mNs1, h_71, g_95])), rfl, rfl, trivial⟩ rfl
                  · have g_95 := cv_b0 h_95
                    refine z_iconst (v := 1) C (by decide +kernel) dX5_volume_98 ?_
                    refine z_goto (tgt := 103) C dX5_volume_99 (by decide) ?_
                    refine z_iadd (v := nI (sumTo (mNs1 y j) p + 1)) C (cv_add (sumTo (mNs1 y j) p) 1) dX5_volume_103 ?_
                    refine z_istore (ls' := [some (.ref (n0 + 113)), some (.int (nI j)), some (.int 7), some (.int (nI p)), some (.int (nI (sumTo (mNs1 y j) p + 1))), some (.int 0), some (.int (nI p)), some (.int (y 6 (40 * j + p)))]) C (by decide) rfl dX5_volume_104 ?_
                    refine z_iinc (v := nI (p + 1)) (ls' := [some (.ref (n0 + 113)), some (.int (nI j)), some (.int 7), some (.int (nI p)), some (.int (nI (sumTo (mNs1 y j) p + 1))), some (.int 0), some (.int (nI (p + 1))), some (.int (y 6 (40 * j + p)))]) C rfl (cv_inc p 1) (by decide) rfl dX5_volume_106 ?_
                    refine z_goto (tgt := 47) C dX5_volume_109 (by decide) ?_
                    exact z_cast (σ1 := (κ, y, o)) (ls' := [some (.ref (n0 + 113)), some (.int (nI j)), some (.int 7), some (.int (mLast y j (p + 1))), some (.int (nI (sumTo (mNs1 y j) (p + 1)))), some (.int 0), some (.int (nI (p + 1))), none]) (st' := []) (ih_47) rfl ⟨rfl, rfl, rfl, (so_int (by simp [mLast, sumTo, mNs1, h_71, g_95])), (so_int (by simp [mLast, sumTo, mNs1, h_71, g_95])), rfl, rfl, trivial⟩ rfl
        · exact absurd h_31 (by decide +kernel)
      · exact absurd h_16 (by decide +kernel)
set_option maxHeartbeats 4000000 in
set_option maxRecDepth 100000 in
theorem c_X5_volume_x (l : Launch) (D : DD) (n0 : Nat) (κ μ : KH) (o : Int64) (v t : Int32) (hb : ¬ (okV1 μ v ∧ ¬ t < 0 ∧ t ≤ 7)) : HM l D n0 yX5_volume cX5_volume 8 (some .int) 2 41 [.ref (n0 + 113), .int v, .int t] (κ, μ, o) (some (.int 0)) (κ, up μ 0 0 1, o) := by
  refine HM.of (by decide) (by simp [Value.category]) (by simp) (Or.inr (Or.inl ⟨_, .int, rfl, rfl, rfl⟩)) ?_
  intro pp ee ss mm aa bb me cd Q C K hret
  show ZZ pp l ee (rmk 2 41) ss mm aa bb me cd D n0 127 8 0 0 Q _ 0 [some (.ref (n0 + 113)), some (.int v), some (.int t), none, none, none, none, none] []
  refine z_aload_n C rfl dX5_volume_0 ?_
  refine z_aload_n C rfl dX5_volume_1 ?_
  refine z_iload_n C rfl dX5_volume_2 ?_
  rcases vNum_or v with hv | ⟨j, hj, rfl⟩
  · skip
    refine z_callV (As := [.int v]) (r := (some (.int 0))) (σ1 := (κ, μ, o)) (st := [.ref (n0 + 113)]) (st1 := [.int 0, .ref (n0 + 113)]) C K ok_X5_126 (c_X5_isVolume_n l D n0 κ μ o v hv) enc_M (by decide) rfl rfl ⟨by decide, by decide⟩ ⟨Nat.zero_le _, Nat.zero_le _⟩ (by simp [Value.category]) dX5_volume_3 rfl rfl ?_
    refine z_if_eq (tgt := 19) C dX5_volume_6 (by decide) (fun h_6 => ?_) (fun h_6 => ?_)
    · skip
      refine z_iconst (v := 1) C (by decide +kernel) dX5_volume_19 ?_
      refine z_goto (tgt := 24) C dX5_volume_20 (by decide) ?_
      refine pf_X5_51 (x := 1) C dX5_volume_24 ?_
      refine z_aload_n C rfl dX5_volume_27 ?_
      refine gf_X5_51 (v := 1) C rfl dX5_volume_28 ?_
      refine z_if_le (tgt := 36) C dX5_volume_31 (by decide) (fun h_31 => ?_) (fun h_31 => ?_)
      · exact absurd h_31 (by decide +kernel)
      · skip
        refine z_iconst (v := 0) C (by decide +kernel) dX5_volume_34 ?_
        exact z_endI (hret _ _ dX5_volume_35) rfl rfl
    · exact absurd h_6 (by decide +kernel)
  · skip
    refine z_callV (As := [.int (nI j)]) (r := (some (.int (b2i (!decide (μ 1 j = 0)))))) (σ1 := (κ, μ, o)) (st := [.ref (n0 + 113)]) (st1 := [.int (b2i (!decide (μ 1 j = 0))), .ref (n0 + 113)]) C K ok_X5_126 (c_X5_isVolume l D n0 κ μ o j (by omega)) enc_M (by decide) rfl rfl ⟨by decide, by decide⟩ ⟨Nat.zero_le _, Nat.zero_le _⟩ (by simp [Value.category]) dX5_volume_3 rfl rfl ?_
    refine z_if_eq (tgt := 19) C dX5_volume_6 (by decide) (fun h_6 => ?_) (fun h_6 => ?_)
    · have g_6 := cv_b0 h_6
      refine z_iconst (v := 1) C (by decide +kernel) dX5_volume_19 ?_
      refine z_goto (tgt := 24) C dX5_volume_20 (by decide) ?_
      refine pf_X5_51 (x := 1) C dX5_volume_24 ?_
      refine z_aload_n C rfl dX5_volume_27 ?_
      refine gf_X5_51 (v := 1) C rfl dX5_volume_28 ?_
      refine z_if_le (tgt := 36) C dX5_volume_31 (by decide) (fun h_31 => ?_) (fun h_31 => ?_)
      · exact absurd h_31 (by decide +kernel)
      · skip
        refine z_iconst (v := 0) C (by decide +kernel) dX5_volume_34 ?_
        exact z_endI (hret _ _ dX5_volume_35) rfl rfl
    · have g_6 := cv_b1 h_6
      refine z_iload_n C rfl dX5_volume_9 ?_
      refine z_if_lt (tgt := 19) C dX5_volume_10 (by decide) (fun h_10 => ?_) (fun h_10 => ?_)
      · skip
        refine z_iconst (v := 1) C (by decide +kernel) dX5_volume_19 ?_
        refine z_goto (tgt := 24) C dX5_volume_20 (by decide) ?_
        refine pf_X5_51 (x := 1) C dX5_volume_24 ?_
        refine z_aload_n C rfl dX5_volume_27 ?_
        refine gf_X5_51 (v := 1) C rfl dX5_volume_28 ?_
        refine z_if_le (tgt := 36) C dX5_volume_31 (by decide) (fun h_31 => ?_) (fun h_31 => ?_)
        · exact absurd h_31 (by decide +kernel)
        · skip
          refine z_iconst (v := 0) C (by decide +kernel) dX5_volume_34 ?_
          exact z_endI (hret _ _ dX5_volume_35) rfl rfl
      · skip
        refine z_iload_n C rfl dX5_volume_13 ?_
        refine z_bipush (v := 7) C (by decide +kernel) dX5_volume_14 ?_
        refine z_icmp_le (tgt := 23) C dX5_volume_16 (by decide) (fun h_16 => ?_) (fun h_16 => ?_)
        · skip
          exact absurd ⟨⟨j, hj, rfl, b_ne g_6⟩, h_10, h_16⟩ hb
        · skip
          refine z_iconst (v := 1) C (by decide +kernel) dX5_volume_19 ?_
          refine z_goto (tgt := 24) C dX5_volume_20 (by decide) ?_
          refine pf_X5_51 (x := 1) C dX5_volume_24 ?_
          refine z_aload_n C rfl dX5_volume_27 ?_
          refine gf_X5_51 (v := 1) C rfl dX5_volume_28 ?_
          refine z_if_le (tgt := 36) C dX5_volume_31 (by decide) (fun h_31 => ?_) (fun h_31 => ?_)
          · exact absurd h_31 (by decide +kernel)
          · skip
            refine z_iconst (v := 0) C (by decide +kernel) dX5_volume_34 ?_
            exact z_endI (hret _ _ dX5_volume_35) rfl rfl
set_option maxHeartbeats 4000000 in
set_option maxRecDepth 100000 in
theorem c_X5_sortAt (l : Launch) (D : DD) (n0 : Nat) (κ μ : KH) (o : Int64) (a b p : Nat) (ha : a < 16) (hb : b < 16) (hp : p < 40) : HM l D n0 yX5_sortAt cX5_sortAt 6 (some .int) 1 22 [.ref (n0 + 113), .int (nI a), .int (nI b), .int (nI p)] (κ, μ, o) (some (.int (mSort μ a b p))) (κ, μ, o) := by
  refine HM.of (by decide) (by simp [Value.category]) (by simp) (Or.inr (Or.inl ⟨_, .int, rfl, rfl, rfl⟩)) ?_
  intro pp ee ss mm aa bb me cd Q C K hret
  show ZZ pp l ee (rmk 1 22) ss mm aa bb me cd D n0 127 6 0 0 Q _ 0 [some (.ref (n0 + 113)), some (.int (nI a)), some (.int (nI b)), some (.int (nI p)), none, none] []
  refine z_aload_n C rfl dX5_sortAt_0 ?_
  refine gf_X5_26 C dX5_sortAt_1 ?_
  refine z_iconst (v := 0) C (by decide +kernel) dX5_sortAt_4 ?_
  refine z_iload_n C rfl dX5_sortAt_5 ?_
  refine z_iload_n C rfl dX5_sortAt_6 ?_
  refine z_callS (As := [.int 0, .int (nI a), .int (nI p)]) (r := (some (.int (nI (40 * a + p))))) (σ1 := (κ, μ, o)) (st := [.ref (n0 + 119)]) (st1 := [.int (nI (40 * a + p)), .ref (n0 + 119)]) C K ok_X5_58 (c_X5_at0 l D n0 κ μ o a p) rfl ⟨by decide, by decide⟩ ⟨Nat.zero_le _, Nat.zero_le _⟩ (by simp [Value.category]) dX5_sortAt_7 rfl rfl ?_
  refine al_119 (v := μ 6 (40 * a + p)) C (40 * a + p) rfl (by omega) rfl dX5_sortAt_10 ?_
  refine z_istore (ls' := [some (.ref (n0 + 113)), some (.int (nI a)), some (.int (nI b)), some (.int (nI p)), some (.int (μ 6 (40 * a + p))), none]) C (by decide) rfl dX5_sortAt_11 ?_
  refine z_aload_n C rfl dX5_sortAt_13 ?_
  refine gf_X5_26 C dX5_sortAt_14 ?_
  refine z_iconst (v := 0) C (by decide +kernel) dX5_sortAt_17 ?_
  refine z_iload_n C rfl dX5_sortAt_18 ?_
  refine z_iload_n C rfl dX5_sortAt_19 ?_
  refine z_callS (As := [.int 0, .int (nI b), .int (nI p)]) (r := (some (.int (nI (40 * b + p))))) (σ1 := (κ, μ, o)) (st := [.ref (n0 + 119)]) (st1 := [.int (nI (40 * b + p)), .ref (n0 + 119)]) C K ok_X5_58 (c_X5_at0 l D n0 κ μ o b p) rfl ⟨by decide, by decide⟩ ⟨Nat.zero_le _, Nat.zero_le _⟩ (by simp [Value.category]) dX5_sortAt_20 rfl rfl ?_
  refine al_119 (v := μ 6 (40 * b + p)) C (40 * b + p) rfl (by omega) rfl dX5_sortAt_23 ?_
  refine z_istore (ls' := [some (.ref (n0 + 113)), some (.int (nI a)), some (.int (nI b)), some (.int (nI p)), some (.int (μ 6 (40 * a + p))), some (.int (μ 6 (40 * b + p)))]) C (by decide) rfl dX5_sortAt_24 ?_
  refine z_iload C rfl dX5_sortAt_26 ?_
  refine z_iconst (v := (-1)) C (by decide +kernel) dX5_sortAt_28 ?_
  refine z_icmp_ne (tgt := 46) C dX5_sortAt_29 (by decide) (fun h_29 => ?_) (fun h_29 => ?_)
  · skip
    refine z_iload C rfl dX5_sortAt_46 ?_
    refine z_iconst (v := (-1)) C (by decide +kernel) dX5_sortAt_48 ?_
    refine z_icmp_ne (tgt := 56) C dX5_sortAt_49 (by decide) (fun h_49 => ?_) (fun h_49 => ?_)
    · skip
      refine z_iload C rfl dX5_sortAt_56 ?_
      refine z_iload C rfl dX5_sortAt_58 ?_
      refine z_icmp_ne (tgt := 67) C dX5_sortAt_60 (by decide) (fun h_60 => ?_) (fun h_60 => ?_)
      · skip
        refine z_iconst (v := 1) C (by decide +kernel) dX5_sortAt_67 ?_
        exact z_endI (hret _ _ dX5_sortAt_68) (by simp [mSort, h_29, h_49, h_60]) rfl
      · skip
        refine z_iconst (v := 0) C (by decide +kernel) dX5_sortAt_63 ?_
        refine z_goto (tgt := 68) C dX5_sortAt_64 (by decide) ?_
        exact z_endI (hret _ _ dX5_sortAt_68) (by simp [mSort, h_29, h_49, h_60]) rfl
    · skip
      refine z_iconst (v := 2) C (by decide +kernel) dX5_sortAt_52 ?_
      refine z_goto (tgt := 68) C dX5_sortAt_53 (by decide) ?_
      exact z_endI (hret _ _ dX5_sortAt_68) (by simp [mSort, h_29, h_49]) rfl
  · skip
    refine z_iload C rfl dX5_sortAt_32 ?_
    refine z_iconst (v := (-1)) C (by decide +kernel) dX5_sortAt_34 ?_
    refine z_icmp_ne (tgt := 42) C dX5_sortAt_35 (by decide) (fun h_35 => ?_) (fun h_35 => ?_)
    · skip
      refine z_iconst (v := 3) C (by decide +kernel) dX5_sortAt_42 ?_
      refine z_goto (tgt := 68) C dX5_sortAt_43 (by decide) ?_
      exact z_endI (hret _ _ dX5_sortAt_68) (by simp [mSort, h_29, h_35]) rfl
    · skip
      refine z_iconst (v := (-1)) C (by decide +kernel) dX5_sortAt_38 ?_
      refine z_goto (tgt := 68) C dX5_sortAt_39 (by decide) ?_
      exact z_endI (hret _ _ dX5_sortAt_68) (by simp [mSort, h_29, h_35]) rfl
set_option maxHeartbeats 4000000 in
set_option maxRecDepth 100000 in
theorem c_X5_differ_0 (l : Launch) (D : DD) (n0 : Nat) (κ μ : KH) (o : Int64) (a b : Nat) (ha : a < 16) (hb : b < 16) (h1 : μ 1 a ≠ 0) (h2 : μ 1 b ≠ 0) (y : KH) (hy : y = up μ 0 0 0) : HM l D n0 yX5_differ cX5_differ 8 (some .int) 2 47 [.ref (n0 + 113), .int (nI a), .int (nI b), .int 0] (κ, μ, o) (some (.int (nI (sumTo (mDf1 y a b 0) 40)))) (κ, y, o) := by
  refine HM.of (by decide) (by simp [Value.category]) (by simp) (Or.inr (Or.inl ⟨_, .int, rfl, rfl, rfl⟩)) ?_
  intro pp ee ss mm aa bb me cd Q C K hret
  show ZZ pp l ee (rmk 2 47) ss mm aa bb me cd D n0 127 8 0 0 Q _ 0 [some (.ref (n0 + 113)), some (.int (nI a)), some (.int (nI b)), some (.int 0), none, none, none, none] []
  refine z_aload_n C rfl dX5_differ_0 ?_
  refine z_aload_n C rfl dX5_differ_1 ?_
  refine z_iload_n C rfl dX5_differ_2 ?_
  refine z_callV (As := [.int (nI a)]) (r := (some (.int (b2i (!decide (μ 1 a = 0)))))) (σ1 := (κ, μ, o)) (st := [.ref (n0 + 113)]) (st1 := [.int (b2i (!decide (μ 1 a = 0))), .ref (n0 + 113)]) C K ok_X5_126 (c_X5_isVolume l D n0 κ μ o a (by omega)) enc_M (by decide) rfl rfl ⟨by decide, by decide⟩ ⟨Nat.zero_le _, Nat.zero_le _⟩ (by simp [Value.category]) dX5_differ_3 rfl rfl ?_
  refine z_if_eq (tgt := 26) C dX5_differ_6 (by decide) (fun h_6 => ?_) (fun h_6 => ?_)
  · have g_6 := cv_b0 h_6
    exact absurd g_6 (by simp [h1])
  · have g_6 := cv_b1 h_6
    refine z_aload_n C rfl dX5_differ_9 ?_
    refine z_iload_n C rfl dX5_differ_10 ?_
    refine z_callV (As := [.int (nI b)]) (r := (some (.int (b2i (!decide (μ 1 b = 0)))))) (σ1 := (κ, μ, o)) (st := [.ref (n0 + 113)]) (st1 := [.int (b2i (!decide (μ 1 b = 0))), .ref (n0 + 113)]) C K ok_X5_126 (c_X5_isVolume l D n0 κ μ o b (by omega)) enc_M (by decide) rfl rfl ⟨by decide, by decide⟩ ⟨Nat.zero_le _, Nat.zero_le _⟩ (by simp [Value.category]) dX5_differ_11 rfl rfl ?_
    refine z_if_eq (tgt := 26) C dX5_differ_14 (by decide) (fun h_14 => ?_) (fun h_14 => ?_)
    · have g_14 := cv_b0 h_14
      exact absurd g_14 (by simp [h2])
    · have g_14 := cv_b1 h_14
      refine z_iload_n C rfl dX5_differ_17 ?_
      refine z_if_lt (tgt := 26) C dX5_differ_18 (by decide) (fun h_18 => ?_) (fun h_18 => ?_)
      · exact absurd h_18 (by decide +kernel)
      · skip
        refine z_iload_n C rfl dX5_differ_21 ?_
        refine z_iconst (v := 4) C (by decide +kernel) dX5_differ_22 ?_
        refine z_icmp_le (tgt := 30) C dX5_differ_23 (by decide) (fun h_23 => ?_) (fun h_23 => ?_)
        · skip
          refine z_iconst (v := 0) C (by decide +kernel) dX5_differ_30 ?_
          refine pf_X5_51 (x := 0) C dX5_differ_31 ?_
          rw [← hy]
          refine z_iconst (v := 0) C (by decide +kernel) dX5_differ_34 ?_
          refine z_istore (ls' := [some (.ref (n0 + 113)), some (.int (nI a)), some (.int (nI b)), some (.int 0), some (.int 0), none, none, none]) C (by decide) rfl dX5_differ_35 ?_
          refine z_iconst (v := 0) C (by decide +kernel) dX5_differ_37 ?_
          refine z_istore (ls' := [some (.ref (n0 + 113)), some (.int (nI a)), some (.int (nI b)), some (.int 0), some (.int 0), some (.int 0), none, none]) C (by decide) rfl dX5_differ_38 ?_
          refine z_cast (σ1 := (κ, y, o)) (ls' := [some (.ref (n0 + 113)), some (.int (nI a)), some (.int (nI b)), some (.int 0), some (.int (nI (sumTo (mDf1 y a b 0) 0))), some (.int (nI 0)), none, none]) (st' := []) (z_for (P := fun p => ZZ pp l ee (rmk 2 47) ss mm aa bb me cd D n0 127 8 0 0 Q (κ, y, o) 40 [some (.ref (n0 + 113)), some (.int (nI a)), some (.int (nI b)), some (.int 0), some (.int (nI (sumTo (mDf1 y a b 0) p))), some (.int (nI p)), none, none] []) (40) ?_ ?_ 0 (Nat.zero_le _)) rfl ⟨rfl, rfl, rfl, rfl, (so_int rfl), rfl, trivial⟩ rfl
          · skip
            refine z_iload C rfl dX5_differ_40 ?_
            refine z_bipush (v := 40) C (by decide +kernel) dX5_differ_42 ?_
            refine z_icmp_ge (tgt := 137) C dX5_differ_44 (by decide) (fun h_44 => ?_) (fun h_44 => ?_)
            · have g_44 := cv_le (a := 40) (b := 40) (by omega) (by omega) h_44
              refine z_iload C rfl dX5_differ_137 ?_
              exact z_endI (hret _ _ dX5_differ_139) rfl rfl
            · have g_44 := cv_nle (a := 40) (b := 40) (by omega) (by omega) h_44
              exact absurd g_44 (by omega)
          · intro p hi_40 ih_40
            refine z_iload C rfl dX5_differ_40 ?_
            refine z_bipush (v := 40) C (by decide +kernel) dX5_differ_42 ?_
            refine z_icmp_ge (tgt := 137) C dX5_differ_44 (by decide) (fun h_44 => ?_) (fun h_44 => ?_)
            · have g_44 := cv_le (a := 40) (b := p) (by omega) (by omega) h_44
              exact absurd hi_40 (by omega)
            · have g_44 := cv_nle (a := 40) (b := p) (by omega) (by omega) h_44
              refine z_aload_n C rfl dX5_differ_47 ?_
              refine gf_X5_51 (v := 0) C (by rw [hy]; exact up_self) dX5_differ_48 ?_
              refine z_if_ne (tgt := 137) C dX5_differ_51 (by decide) (fun h_51 => ?_) (fun h_51 => ?_)
              · exact absurd h_51 (by decide +kernel)
              · skip
                refine z_aload_n C rfl dX5_differ_54 ?_
                refine z_iload_n C rfl dX5_differ_55 ?_
                refine z_iload_n C rfl dX5_differ_56 ?_
                refine z_iload C rfl dX5_differ_57 ?_
                refine z_callV (As := [.int (nI a), .int (nI b), .int (nI p)]) (r := (some (.int (mSort y a b p)))) (σ1 := (κ, y, o)) (st := []) (st1 := [.int (mSort y a b p)]) C K ok_X5_176 (c_X5_sortAt l D n0 κ y o a b p (by omega) (by omega) (by omega)) enc_M (by decide) rfl rfl ⟨by decide, by decide⟩ ⟨Nat.zero_le _, Nat.zero_le _⟩ (by simp [Value.category]) dX5_differ_59 rfl rfl ?_
                refine z_istore (ls' := [some (.ref (n0 + 113)), some (.int (nI a)), some (.int (nI b)), some (.int 0), some (.int (nI (sumTo (mDf1 y a b 0) p))), some (.int (nI p)), some (.int (mSort y a b p)), none]) C (by decide) rfl dX5_differ_62 ?_
                refine z_iload C rfl dX5_differ_64 ?_
                refine z_iconst (v := (-1)) C (by decide +kernel) dX5_differ_66 ?_
                refine z_icmp_eq (tgt := 94) C dX5_differ_67 (by decide) (fun h_67 => ?_) (fun h_67 => ?_)
                · skip
                  refine z_iconst (v := 0) C (by decide +kernel) dX5_differ_94 ?_
                  refine z_istore (ls' := [some (.ref (n0 + 113)), some (.int (nI a)), some (.int (nI b)), some (.int 0), some (.int (nI (sumTo (mDf1 y a b 0) p))), some (.int (nI p)), some (.int (mSort y a b p)), some (.int 0)]) C (by decide) rfl dX5_differ_95 ?_
                  refine z_iload C rfl dX5_differ_97 ?_
                  refine z_iload_n C rfl dX5_differ_99 ?_
                  refine z_iconst (v := 4) C (by decide +kernel) dX5_differ_100 ?_
                  refine z_icmp_ne (tgt := 117) C dX5_differ_101 (by decide) (fun h_101 => ?_) (fun h_101 => ?_)
                  · skip
                    refine z_iload C rfl dX5_differ_117 ?_
                    refine z_iload_n C rfl dX5_differ_119 ?_
                    refine z_icmp_ne (tgt := 127) C dX5_differ_120 (by decide) (fun h_120 => ?_) (fun h_120 => ?_)
                    · skip
                      refine z_iconst (v := 0) C (by decide +kernel) dX5_differ_127 ?_
                      refine z_iadd (v := nI (sumTo (mDf1 y a b 0) p + 0)) C (cv_add (sumTo (mDf1 y a b 0) p) 0) dX5_differ_128 ?_
                      refine z_istore (ls' := [some (.ref (n0 + 113)), some (.int (nI a)), some (.int (nI b)), some (.int 0), some (.int (nI (sumTo (mDf1 y a b 0) p + 0))), some (.int (nI p)), some (.int (mSort y a b p)), some (.int 0)]) C (by decide) rfl dX5_differ_129 ?_
                      refine z_iinc (v := nI (p + 1)) (ls' := [some (.ref (n0 + 113)), some (.int (nI a)), some (.int (nI b)), some (.int 0), some (.int (nI (sumTo (mDf1 y a b 0) p + 0))), some (.int (nI (p + 1))), some (.int (mSort y a b p)), some (.int 0)]) C rfl (cv_inc p 1) (by decide) rfl dX5_differ_131 ?_
                      refine z_goto (tgt := 40) C dX5_differ_134 (by decide) ?_
                      exact z_cast (σ1 := (κ, y, o)) (ls' := [some (.ref (n0 + 113)), some (.int (nI a)), some (.int (nI b)), some (.int 0), some (.int (nI (sumTo (mDf1 y a b 0) (p + 1)))), some (.int (nI (p + 1))), none, none]) (st' := []) (ih_40) rfl ⟨rfl, rfl, rfl, rfl, (so_int (by simp [sumTo, mDf1, h_120])), rfl, trivial⟩ rfl
                    · skip
                      refine z_iconst (v := 1) C (by decide +kernel) dX5_differ_123 ?_
                      refine z_goto (tgt := 128) C dX5_differ_124 (by decide) ?_
                      refine z_iadd (v := nI (sumTo (mDf1 y a b 0) p + 1)) C (cv_add (sumTo (mDf1 y a b 0) p) 1) dX5_differ_128 ?_
                      refine z_istore (ls' := [some (.ref (n0 + 113)), some (.int (nI a)), some (.int (nI b)), some (.int 0), some (.int (nI (sumTo (mDf1 y a b 0) p + 1))), some (.int (nI p)), some (.int (mSort y a b p)), some (.int 0)]) C (by decide) rfl dX5_differ_129 ?_
                      refine z_iinc (v := nI (p + 1)) (ls' := [some (.ref (n0 + 113)), some (.int (nI a)), some (.int (nI b)), some (.int 0), some (.int (nI (sumTo (mDf1 y a b 0) p + 1))), some (.int (nI (p + 1))), some (.int (mSort y a b p)), some (.int 0)]) C rfl (cv_inc p 1) (by decide) rfl dX5_differ_131 ?_
                      refine z_goto (tgt := 40) C dX5_differ_134 (by decide) ?_
                      exact z_cast (σ1 := (κ, y, o)) (ls' := [some (.ref (n0 + 113)), some (.int (nI a)), some (.int (nI b)), some (.int 0), some (.int (nI (sumTo (mDf1 y a b 0) (p + 1)))), some (.int (nI (p + 1))), none, none]) (st' := []) (ih_40) rfl ⟨rfl, rfl, rfl, rfl, (so_int (by simp [sumTo, mDf1, h_120])), rfl, trivial⟩ rfl
                  · exact absurd h_101 (by decide +kernel)
                · skip
                  refine z_iload C rfl dX5_differ_70 ?_
                  refine z_if_eq (tgt := 90) C dX5_differ_72 (by decide) (fun h_72 => ?_) (fun h_72 => ?_)
                  · have g_72 := cv_eq (a := p) (b := 0) (by omega) (by omega) h_72
                    refine z_iconst (v := 1) C (by decide +kernel) dX5_differ_90 ?_
                    refine z_goto (tgt := 95) C dX5_differ_91 (by decide) ?_
                    refine z_istore (ls' := [some (.ref (n0 + 113)), some (.int (nI a)), some (.int (nI b)), some (.int 0), some (.int (nI (sumTo (mDf1 y a b 0) p))), some (.int (nI p)), some (.int (mSort y a b p)), some (.int 1)]) C (by decide) rfl dX5_differ_95 ?_
                    refine z_iload C rfl dX5_differ_97 ?_
                    refine z_iload_n C rfl dX5_differ_99 ?_
                    refine z_iconst (v := 4) C (by decide +kernel) dX5_differ_100 ?_
                    refine z_icmp_ne (tgt := 117) C dX5_differ_101 (by decide) (fun h_101 => ?_) (fun h_101 => ?_)
                    · skip
                      refine z_iload C rfl dX5_differ_117 ?_
                      refine z_iload_n C rfl dX5_differ_119 ?_
                      refine z_icmp_ne (tgt := 127) C dX5_differ_120 (by decide) (fun h_120 => ?_) (fun h_120 => ?_)
                      · skip
                        refine z_iconst (v := 0) C (by decide +kernel) dX5_differ_127 ?_
                        refine z_iadd (v := nI (sumTo (mDf1 y a b 0) p + 0)) C (cv_add (sumTo (mDf1 y a b 0) p) 0) dX5_differ_128 ?_
                        refine z_istore (ls' := [some (.ref (n0 + 113)), some (.int (nI a)), some (.int (nI b)), some (.int 0), some (.int (nI (sumTo (mDf1 y a b 0) p + 0))), some (.int (nI p)), some (.int (mSort y a b p)), some (.int 1)]) C (by decide) rfl dX5_differ_129 ?_
                        refine z_iinc (v := nI (p + 1)) (ls' := [some (.ref (n0 + 113)), some (.int (nI a)), some (.int (nI b)), some (.int 0), some (.int (nI (sumTo (mDf1 y a b 0) p + 0))), some (.int (nI (p + 1))), some (.int (mSort y a b p)), some (.int 1)]) C rfl (cv_inc p 1) (by decide) rfl dX5_differ_131 ?_
                        refine z_goto (tgt := 40) C dX5_differ_134 (by decide) ?_
                        exact z_cast (σ1 := (κ, y, o)) (ls' := [some (.ref (n0 + 113)), some (.int (nI a)), some (.int (nI b)), some (.int 0), some (.int (nI (sumTo (mDf1 y a b 0) (p + 1)))), some (.int (nI (p + 1))), none, none]) (st' := []) (ih_40) rfl ⟨rfl, rfl, rfl, rfl, (so_int (by simp [sumTo, mDf1, h_120])), rfl, trivial⟩ rfl
                      · skip
                        refine z_iconst (v := 1) C (by decide +kernel) dX5_differ_123 ?_
                        refine z_goto (tgt := 128) C dX5_differ_124 (by decide) ?_
                        refine z_iadd (v := nI (sumTo (mDf1 y a b 0) p + 1)) C (cv_add (sumTo (mDf1 y a b 0) p) 1) dX5_differ_128 ?_
                        refine z_istore (ls' := [some (.ref (n0 + 113)), some (.int (nI a)), some (.int (nI b)), some (.int 0), some (.int (nI (sumTo (mDf1 y a b 0) p + 1))), some (.int (nI p)), some (.int (mSort y a b p)), some (.int 1)]) C (by decide) rfl dX5_differ_129 ?_
                        refine z_iinc (v := nI (p + 1)) (ls' := [some (.ref (n0 + 113)), some (.int (nI a)), some (.int (nI b)), some (.int 0), some (.int (nI (sumTo (mDf1 y a b 0) p + 1))), some (.int (nI (p + 1))), some (.int (mSort y a b p)), some (.int 1)]) C rfl (cv_inc p 1) (by decide) rfl dX5_differ_131 ?_
                        refine z_goto (tgt := 40) C dX5_differ_134 (by decide) ?_
                        exact z_cast (σ1 := (κ, y, o)) (ls' := [some (.ref (n0 + 113)), some (.int (nI a)), some (.int (nI b)), some (.int 0), some (.int (nI (sumTo (mDf1 y a b 0) (p + 1)))), some (.int (nI (p + 1))), none, none]) (st' := []) (ih_40) rfl ⟨rfl, rfl, rfl, rfl, (so_int (by simp [sumTo, mDf1, h_120])), rfl, trivial⟩ rfl
                    · exact absurd h_101 (by decide +kernel)
                  · have g_72 := cv_ne (a := p) (b := 0) h_72
                    refine z_aload_n C rfl dX5_differ_75 ?_
                    refine z_iload_n C rfl dX5_differ_76 ?_
                    refine z_iload_n C rfl dX5_differ_77 ?_
                    refine z_iload C rfl dX5_differ_78 ?_
                    refine z_iconst (v := 1) C (by decide +kernel) dX5_differ_80 ?_
                    refine z_isub (v := nI (p - 1)) C (cv_sub (b := 1) (by omega)) dX5_differ_81 ?_
                    refine z_callV (As := [.int (nI a), .int (nI b), .int (nI (p - 1))]) (r := (some (.int (mSort y a b (p - 1))))) (σ1 := (κ, y, o)) (st := []) (st1 := [.int (mSort y a b (p - 1))]) C K ok_X5_176 (c_X5_sortAt l D n0 κ y o a b (p - 1) (by omega) (by omega) (by omega)) enc_M (by decide) rfl rfl ⟨by decide, by decide⟩ ⟨Nat.zero_le _, Nat.zero_le _⟩ (by simp [Value.category]) dX5_differ_82 rfl rfl ?_
                    refine z_iload C rfl dX5_differ_85 ?_
                    refine z_icmp_eq (tgt := 94) C dX5_differ_87 (by decide) (fun h_87 => ?_) (fun h_87 => ?_)
                    · skip
                      refine z_iconst (v := 0) C (by decide +kernel) dX5_differ_94 ?_
                      refine z_istore (ls' := [some (.ref (n0 + 113)), some (.int (nI a)), some (.int (nI b)), some (.int 0), some (.int (nI (sumTo (mDf1 y a b 0) p))), some (.int (nI p)), some (.int (mSort y a b p)), some (.int 0)]) C (by decide) rfl dX5_differ_95 ?_
                      refine z_iload C rfl dX5_differ_97 ?_
                      refine z_iload_n C rfl dX5_differ_99 ?_
                      refine z_iconst (v := 4) C (by decide +kernel) dX5_differ_100 ?_
                      refine z_icmp_ne (tgt := 117) C dX5_differ_101 (by decide) (fun h_101 => ?_) (fun h_101 => ?_)
                      · skip
                        refine z_iload C rfl dX5_differ_117 ?_
                        refine z_iload_n C rfl dX5_differ_119 ?_
                        refine z_icmp_ne (tgt := 127) C dX5_differ_120 (by decide) (fun h_120 => ?_) (fun h_120 => ?_)
                        · skip
                          refine z_iconst (v := 0) C (by decide +kernel) dX5_differ_127 ?_
                          refine z_iadd (v := nI (sumTo (mDf1 y a b 0) p + 0)) C (cv_add (sumTo (mDf1 y a b 0) p) 0) dX5_differ_128 ?_
                          refine z_istore (ls' := [some (.ref (n0 + 113)), some (.int (nI a)), some (.int (nI b)), some (.int 0), some (.int (nI (sumTo (mDf1 y a b 0) p + 0))), some (.int (nI p)), some (.int (mSort y a b p)), some (.int 0)]) C (by decide) rfl dX5_differ_129 ?_
                          refine z_iinc (v := nI (p + 1)) (ls' := [some (.ref (n0 + 113)), some (.int (nI a)), some (.int (nI b)), some (.int 0), some (.int (nI (sumTo (mDf1 y a b 0) p + 0))), some (.int (nI (p + 1))), some (.int (mSort y a b p)), some (.int 0)]) C rfl (cv_inc p 1) (by decide) rfl dX5_differ_131 ?_
                          refine z_goto (tgt := 40) C dX5_differ_134 (by decide) ?_
                          exact z_cast (σ1 := (κ, y, o)) (ls' := [some (.ref (n0 + 113)), some (.int (nI a)), some (.int (nI b)), some (.int 0), some (.int (nI (sumTo (mDf1 y a b 0) (p + 1)))), some (.int (nI (p + 1))), none, none]) (st' := []) (ih_40) rfl ⟨rfl, rfl, rfl, rfl, (so_int (by simp [sumTo, mDf1, h_120])), rfl, trivial⟩ rfl
                        · skip
                          refine z_iconst (v := 1) C (by decide +kernel) dX5_differ_123 ?_
                          refine z_goto (tgt := 128) C dX5_differ_124 (by decide) ?_
                          refine z_iadd (v := nI (sumTo (mDf1 y a b 0) p + 1)) C (cv_add (sumTo (mDf1 y a b 0) p) 1) dX5_differ_128 ?_
                          refine z_istore (ls' := [some (.ref (n0 + 113)), some (.int (nI a)), some (.int (nI b)), some (.int 0), some (.int (nI (sumTo (mDf1 y a b 0) p + 1))), some (.int (nI p)), some (.int (mSort y a b p)), some (.int 0)]) C (by decide) rfl dX5_differ_129 ?_
                          refine z_iinc (v := nI (p + 1)) (ls' := [some (.ref (n0 + 113)), some (.int (nI a)), some (.int (nI b)), some (.int 0), some (.int (nI (sumTo (mDf1 y a b 0) p + 1))), some (.int (nI (p + 1))), some (.int (mSort y a b p)), some (.int 0)]) C rfl (cv_inc p 1) (by decide) rfl dX5_differ_131 ?_
                          refine z_goto (tgt := 40) C dX5_differ_134 (by decide) ?_
                          exact z_cast (σ1 := (κ, y, o)) (ls' := [some (.ref (n0 + 113)), some (.int (nI a)), some (.int (nI b)), some (.int 0), some (.int (nI (sumTo (mDf1 y a b 0) (p + 1)))), some (.int (nI (p + 1))), none, none]) (st' := []) (ih_40) rfl ⟨rfl, rfl, rfl, rfl, (so_int (by simp [sumTo, mDf1, h_120])), rfl, trivial⟩ rfl
                      · exact absurd h_101 (by decide +kernel)
                    · skip
                      refine z_iconst (v := 1) C (by decide +kernel) dX5_differ_90 ?_
                      refine z_goto (tgt := 95) C dX5_differ_91 (by decide) ?_
                      refine z_istore (ls' := [some (.ref (n0 + 113)), some (.int (nI a)), some (.int (nI b)), some (.int 0), some (.int (nI (sumTo (mDf1 y a b 0) p))), some (.int (nI p)), some (.int (mSort y a b p)), some (.int 1)]) C (by decide) rfl dX5_differ_95 ?_
                      refine z_iload C rfl dX5_differ_97 ?_
                      refine z_iload_n C rfl dX5_differ_99 ?_
                      refine z_iconst (v := 4) C (by decide +kernel) dX5_differ_100 ?_
                      refine z_icmp_ne (tgt := 117) C dX5_differ_101 (by decide) (fun h_101 => ?_) (fun h_101 => ?_)
                      · skip
                        refine z_iload C rfl dX5_differ_117 ?_
                        refine z_iload_n C rfl dX5_differ_119 ?_
                        refine z_icmp_ne (tgt := 127) C dX5_differ_120 (by decide) (fun h_120 => ?_) (fun h_120 => ?_)
                        · skip
                          refine z_iconst (v := 0) C (by decide +kernel) dX5_differ_127 ?_
                          refine z_iadd (v := nI (sumTo (mDf1 y a b 0) p + 0)) C (cv_add (sumTo (mDf1 y a b 0) p) 0) dX5_differ_128 ?_
                          refine z_istore (ls' := [some (.ref (n0 + 113)), some (.int (nI a)), some (.int (nI b)), some (.int 0), some (.int (nI (sumTo (mDf1 y a b 0) p + 0))), some (.int (nI p)), some (.int (mSort y a b p)), some (.int 1)]) C (by decide) rfl dX5_differ_129 ?_
                          refine z_iinc (v := nI (p + 1)) (ls' := [some (.ref (n0 + 113)), some (.int (nI a)), some (.int (nI b)), some (.int 0), some (.int (nI (sumTo (mDf1 y a b 0) p + 0))), some (.int (nI (p + 1))), some (.int (mSort y a b p)), some (.int 1)]) C rfl (cv_inc p 1) (by decide) rfl dX5_differ_131 ?_
                          refine z_goto (tgt := 40) C dX5_differ_134 (by decide) ?_
                          exact z_cast (σ1 := (κ, y, o)) (ls' := [some (.ref (n0 + 113)), some (.int (nI a)), some (.int (nI b)), some (.int 0), some (.int (nI (sumTo (mDf1 y a b 0) (p + 1)))), some (.int (nI (p + 1))), none, none]) (st' := []) (ih_40) rfl ⟨rfl, rfl, rfl, rfl, (so_int (by simp [sumTo, mDf1, h_120])), rfl, trivial⟩ rfl
                        · skip
                          refine z_iconst (v := 1) C (by decide +kernel) dX5_differ_123 ?_
                          refine z_goto (tgt := 128) C dX5_differ_124 (by decide) ?_
                          refine z_iadd (v := nI (sumTo (mDf1 y a b 0) p + 1)) C (cv_add (sumTo (mDf1 y a b 0) p) 1) dX5_differ_128 ?_
                          refine z_istore (ls' := [some (.ref (n0 + 113)), some (.int (nI a)), some (.int (nI b)), some (.int 0), some (.int (nI (sumTo (mDf1 y a b 0) p + 1))), some (.int (nI p)), some (.int (mSort y a b p)), some (.int 1)]) C (by decide) rfl dX5_differ_129 ?_
                          refine z_iinc (v := nI (p + 1)) (ls' := [some (.ref (n0 + 113)), some (.int (nI a)), some (.int (nI b)), some (.int 0), some (.int (nI (sumTo (mDf1 y a b 0) p + 1))), some (.int (nI (p + 1))), some (.int (mSort y a b p)), some (.int 1)]) C rfl (cv_inc p 1) (by decide) rfl dX5_differ_131 ?_
                          refine z_goto (tgt := 40) C dX5_differ_134 (by decide) ?_
                          exact z_cast (σ1 := (κ, y, o)) (ls' := [some (.ref (n0 + 113)), some (.int (nI a)), some (.int (nI b)), some (.int 0), some (.int (nI (sumTo (mDf1 y a b 0) (p + 1)))), some (.int (nI (p + 1))), none, none]) (st' := []) (ih_40) rfl ⟨rfl, rfl, rfl, rfl, (so_int (by simp [sumTo, mDf1, h_120])), rfl, trivial⟩ rfl
                      · exact absurd h_101 (by decide +kernel)
        · exact absurd h_23 (by decide +kernel)
set_option maxHeartbeats 4000000 in
set_option maxRecDepth 100000 in
theorem c_X5_differ_1 (l : Launch) (D : DD) (n0 : Nat) (κ μ : KH) (o : Int64) (a b : Nat) (ha : a < 16) (hb : b < 16) (h1 : μ 1 a ≠ 0) (h2 : μ 1 b ≠ 0) (y : KH) (hy : y = up μ 0 0 0) : HM l D n0 yX5_differ cX5_differ 8 (some .int) 2 47 [.ref (n0 + 113), .int (nI a), .int (nI b), .int 1] (κ, μ, o) (some (.int (nI (sumTo (mDf1 y a b 1) 40)))) (κ, y, o) := by
  refine HM.of (by decide) (by simp [Value.category]) (by simp) (Or.inr (Or.inl ⟨_, .int, rfl, rfl, rfl⟩)) ?_
  intro pp ee ss mm aa bb me cd Q C K hret
  show ZZ pp l ee (rmk 2 47) ss mm aa bb me cd D n0 127 8 0 0 Q _ 0 [some (.ref (n0 + 113)), some (.int (nI a)), some (.int (nI b)), some (.int 1), none, none, none, none] []
  refine z_aload_n C rfl dX5_differ_0 ?_
  refine z_aload_n C rfl dX5_differ_1 ?_
  refine z_iload_n C rfl dX5_differ_2 ?_
  refine z_callV (As := [.int (nI a)]) (r := (some (.int (b2i (!decide (μ 1 a = 0)))))) (σ1 := (κ, μ, o)) (st := [.ref (n0 + 113)]) (st1 := [.int (b2i (!decide (μ 1 a = 0))), .ref (n0 + 113)]) C K ok_X5_126 (c_X5_isVolume l D n0 κ μ o a (by omega)) enc_M (by decide) rfl rfl ⟨by decide, by decide⟩ ⟨Nat.zero_le _, Nat.zero_le _⟩ (by simp [Value.category]) dX5_differ_3 rfl rfl ?_
  refine z_if_eq (tgt := 26) C dX5_differ_6 (by decide) (fun h_6 => ?_) (fun h_6 => ?_)
  · have g_6 := cv_b0 h_6
    exact absurd g_6 (by simp [h1])
  · have g_6 := cv_b1 h_6
    refine z_aload_n C rfl dX5_differ_9 ?_
    refine z_iload_n C rfl dX5_differ_10 ?_
    refine z_callV (As := [.int (nI b)]) (r := (some (.int (b2i (!decide (μ 1 b = 0)))))) (σ1 := (κ, μ, o)) (st := [.ref (n0 + 113)]) (st1 := [.int (b2i (!decide (μ 1 b = 0))), .ref (n0 + 113)]) C K ok_X5_126 (c_X5_isVolume l D n0 κ μ o b (by omega)) enc_M (by decide) rfl rfl ⟨by decide, by decide⟩ ⟨Nat.zero_le _, Nat.zero_le _⟩ (by simp [Value.category]) dX5_differ_11 rfl rfl ?_
    refine z_if_eq (tgt := 26) C dX5_differ_14 (by decide) (fun h_14 => ?_) (fun h_14 => ?_)
    · have g_14 := cv_b0 h_14
      exact absurd g_14 (by simp [h2])
    · have g_14 := cv_b1 h_14
      refine z_iload_n C rfl dX5_differ_17 ?_
      refine z_if_lt (tgt := 26) C dX5_differ_18 (by decide) (fun h_18 => ?_) (fun h_18 => ?_)
      · exact absurd h_18 (by decide +kernel)
      · skip
        refine z_iload_n C rfl dX5_differ_21 ?_
        refine z_iconst (v := 4) C (by decide +kernel) dX5_differ_22 ?_
        refine z_icmp_le (tgt := 30) C dX5_differ_23 (by decide) (fun h_23 => ?_) (fun h_23 => ?_)
        · skip
          refine z_iconst (v := 0) C (by decide +kernel) dX5_differ_30 ?_
          refine pf_X5_51 (x := 0) C dX5_differ_31 ?_
          rw [← hy]
          refine z_iconst (v := 0) C (by decide +kernel) dX5_differ_34 ?_
          refine z_istore (ls' := [some (.ref (n0 + 113)), some (.int (nI a)), some (.int (nI b)), some (.int 1), some (.int 0), none, none, none]) C (by decide) rfl dX5_differ_35 ?_
          refine z_iconst (v := 0) C (by decide +kernel) dX5_differ_37 ?_
          refine z_istore (ls' := [some (.ref (n0 + 113)), some (.int (nI a)), some (.int (nI b)), some (.int 1), some (.int 0), some (.int 0), none, none]) C (by decide) rfl dX5_differ_38 ?_
          refine z_cast (σ1 := (κ, y, o)) (ls' := [some (.ref (n0 + 113)), some (.int (nI a)), some (.int (nI b)), some (.int 1), some (.int (nI (sumTo (mDf1 y a b 1) 0))), some (.int (nI 0)), none, none]) (st' := []) (z_for (P := fun p => ZZ pp l ee (rmk 2 47) ss mm aa bb me cd D n0 127 8 0 0 Q (κ, y, o) 40 [some (.ref (n0 + 113)), some (.int (nI a)), some (.int (nI b)), some (.int 1), some (.int (nI (sumTo (mDf1 y a b 1) p))), some (.int (nI p)), none, none] []) (40) ?_ ?_ 0 (Nat.zero_le _)) rfl ⟨rfl, rfl, rfl, rfl, (so_int rfl), rfl, trivial⟩ rfl
          · skip
            refine z_iload C rfl dX5_differ_40 ?_
            refine z_bipush (v := 40) C (by decide +kernel) dX5_differ_42 ?_
            refine z_icmp_ge (tgt := 137) C dX5_differ_44 (by decide) (fun h_44 => ?_) (fun h_44 => ?_)
            · have g_44 := cv_le (a := 40) (b := 40) (by omega) (by omega) h_44
              refine z_iload C rfl dX5_differ_137 ?_
              exact z_endI (hret _ _ dX5_differ_139) rfl rfl
            · have g_44 := cv_nle (a := 40) (b := 40) (by omega) (by omega) h_44
              exact absurd g_44 (by omega)
          · intro p hi_40 ih_40
            refine z_iload C rfl dX5_differ_40 ?_
            refine z_bipush (v := 40) C (by decide +kernel) dX5_differ_42 ?_
            refine z_icmp_ge (tgt := 137) C dX5_differ_44 (by decide) (fun h_44 => ?_) (fun h_44 => ?_)
            · have g_44 := cv_le (a := 40) (b := p) (by omega) (by omega) h_44
              exact absurd hi_40 (by omega)
            · have g_44 := cv_nle (a := 40) (b := p) (by omega) (by omega) h_44
              refine z_aload_n C rfl dX5_differ_47 ?_
              refine gf_X5_51 (v := 0) C (by rw [hy]; exact up_self) dX5_differ_48 ?_
              refine z_if_ne (tgt := 137) C dX5_differ_51 (by decide) (fun h_51 => ?_) (fun h_51 => ?_)
              · exact absurd h_51 (by decide +kernel)
              · skip
                refine z_aload_n C rfl dX5_differ_54 ?_
                refine z_iload_n C rfl dX5_differ_55 ?_
                refine z_iload_n C rfl dX5_differ_56 ?_
                refine z_iload C rfl dX5_differ_57 ?_
                refine z_callV (As := [.int (nI a), .int (nI b), .int (nI p)]) (r := (some (.int (mSort y a b p)))) (σ1 := (κ, y, o)) (st := []) (st1 := [.int (mSort y a b p)]) C K ok_X5_176 (c_X5_sortAt l D n0 κ y o a b p (by omega) (by omega) (by omega)) enc_M (by decide) rfl rfl ⟨by decide, by decide⟩ ⟨Nat.zero_le _, Nat.zero_le _⟩ (by simp [Value.category]) dX5_differ_59 rfl rfl ?_
                refine z_istore (ls' := [some (.ref (n0 + 113)), some (.int (nI a)), some (.int (nI b)), some (.int 1), some (.int (nI (sumTo (mDf1 y a b 1) p))), some (.int (nI p)), some (.int (mSort y a b p)), none]) C (by decide) rfl dX5_differ_62 ?_
                refine z_iload C rfl dX5_differ_64 ?_
                refine z_iconst (v := (-1)) C (by decide +kernel) dX5_differ_66 ?_
                refine z_icmp_eq (tgt := 94) C dX5_differ_67 (by decide) (fun h_67 => ?_) (fun h_67 => ?_)
                · skip
                  refine z_iconst (v := 0) C (by decide +kernel) dX5_differ_94 ?_
                  refine z_istore (ls' := [some (.ref (n0 + 113)), some (.int (nI a)), some (.int (nI b)), some (.int 1), some (.int (nI (sumTo (mDf1 y a b 1) p))), some (.int (nI p)), some (.int (mSort y a b p)), some (.int 0)]) C (by decide) rfl dX5_differ_95 ?_
                  refine z_iload C rfl dX5_differ_97 ?_
                  refine z_iload_n C rfl dX5_differ_99 ?_
                  refine z_iconst (v := 4) C (by decide +kernel) dX5_differ_100 ?_
                  refine z_icmp_ne (tgt := 117) C dX5_differ_101 (by decide) (fun h_101 => ?_) (fun h_101 => ?_)
                  · skip
                    refine z_iload C rfl dX5_differ_117 ?_
                    refine z_iload_n C rfl dX5_differ_119 ?_
                    refine z_icmp_ne (tgt := 127) C dX5_differ_120 (by decide) (fun h_120 => ?_) (fun h_120 => ?_)
                    · skip
                      refine z_iconst (v := 0) C (by decide +kernel) dX5_differ_127 ?_
                      refine z_iadd (v := nI (sumTo (mDf1 y a b 1) p + 0)) C (cv_add (sumTo (mDf1 y a b 1) p) 0) dX5_differ_128 ?_
                      refine z_istore (ls' := [some (.ref (n0 + 113)), some (.int (nI a)), some (.int (nI b)), some (.int 1), some (.int (nI (sumTo (mDf1 y a b 1) p + 0))), some (.int (nI p)), some (.int (mSort y a b p)), some (.int 0)]) C (by decide) rfl dX5_differ_129 ?_
                      refine z_iinc (v := nI (p + 1)) (ls' := [some (.ref (n0 + 113)), some (.int (nI a)), some (.int (nI b)), some (.int 1), some (.int (nI (sumTo (mDf1 y a b 1) p + 0))), some (.int (nI (p + 1))), some (.int (mSort y a b p)), some (.int 0)]) C rfl (cv_inc p 1) (by decide) rfl dX5_differ_131 ?_
                      refine z_goto (tgt := 40) C dX5_differ_134 (by decide) ?_
                      exact z_cast (σ1 := (κ, y, o)) (ls' := [some (.ref (n0 + 113)), some (.int (nI a)), some (.int (nI b)), some (.int 1), some (.int (nI (sumTo (mDf1 y a b 1) (p + 1)))), some (.int (nI (p + 1))), none, none]) (st' := []) (ih_40) rfl ⟨rfl, rfl, rfl, rfl, (so_int (by simp [sumTo, mDf1, h_120])), rfl, trivial⟩ rfl
                    · skip
                      refine z_iconst (v := 1) C (by decide +kernel) dX5_differ_123 ?_
                      refine z_goto (tgt := 128) C dX5_differ_124 (by decide) ?_
                      refine z_iadd (v := nI (sumTo (mDf1 y a b 1) p + 1)) C (cv_add (sumTo (mDf1 y a b 1) p) 1) dX5_differ_128 ?_
                      refine z_istore (ls' := [some (.ref (n0 + 113)), some (.int (nI a)), some (.int (nI b)), some (.int 1), some (.int (nI (sumTo (mDf1 y a b 1) p + 1))), some (.int (nI p)), some (.int (mSort y a b p)), some (.int 0)]) C (by decide) rfl dX5_differ_129 ?_
                      refine z_iinc (v := nI (p + 1)) (ls' := [some (.ref (n0 + 113)), some (.int (nI a)), some (.int (nI b)), some (.int 1), some (.int (nI (sumTo (mDf1 y a b 1) p + 1))), some (.int (nI (p + 1))), some (.int (mSort y a b p)), some (.int 0)]) C rfl (cv_inc p 1) (by decide) rfl dX5_differ_131 ?_
                      refine z_goto (tgt := 40) C dX5_differ_134 (by decide) ?_
                      exact z_cast (σ1 := (κ, y, o)) (ls' := [some (.ref (n0 + 113)), some (.int (nI a)), some (.int (nI b)), some (.int 1), some (.int (nI (sumTo (mDf1 y a b 1) (p + 1)))), some (.int (nI (p + 1))), none, none]) (st' := []) (ih_40) rfl ⟨rfl, rfl, rfl, rfl, (so_int (by simp [sumTo, mDf1, h_120])), rfl, trivial⟩ rfl
                  · exact absurd h_101 (by decide +kernel)
                · skip
                  refine z_iload C rfl dX5_differ_70 ?_
                  refine z_if_eq (tgt := 90) C dX5_differ_72 (by decide) (fun h_72 => ?_) (fun h_72 => ?_)
                  · have g_72 := cv_eq (a := p) (b := 0) (by omega) (by omega) h_72
                    refine z_iconst (v := 1) C (by decide +kernel) dX5_differ_90 ?_
                    refine z_goto (tgt := 95) C dX5_differ_91 (by decide) ?_
                    refine z_istore (ls' := [some (.ref (n0 + 113)), some (.int (nI a)), some (.int (nI b)), some (.int 1), some (.int (nI (sumTo (mDf1 y a b 1) p))), some (.int (nI p)), some (.int (mSort y a b p)), some (.int 1)]) C (by decide) rfl dX5_differ_95 ?_
                    refine z_iload C rfl dX5_differ_97 ?_
                    refine z_iload_n C rfl dX5_differ_99 ?_
                    refine z_iconst (v := 4) C (by decide +kernel) dX5_differ_100 ?_
                    refine z_icmp_ne (tgt := 117) C dX5_differ_101 (by decide) (fun h_101 => ?_) (fun h_101 => ?_)
                    · skip
                      refine z_iload C rfl dX5_differ_117 ?_
                      refine z_iload_n C rfl dX5_differ_119 ?_
                      refine z_icmp_ne (tgt := 127) C dX5_differ_120 (by decide) (fun h_120 => ?_) (fun h_120 => ?_)
                      · skip
                        refine z_iconst (v := 0) C (by decide +kernel) dX5_differ_127 ?_
                        refine z_iadd (v := nI (sumTo (mDf1 y a b 1) p + 0)) C (cv_add (sumTo (mDf1 y a b 1) p) 0) dX5_differ_128 ?_
                        refine z_istore (ls' := [some (.ref (n0 + 113)), some (.int (nI a)), some (.int (nI b)), some (.int 1), some (.int (nI (sumTo (mDf1 y a b 1) p + 0))), some (.int (nI p)), some (.int (mSort y a b p)), some (.int 1)]) C (by decide) rfl dX5_differ_129 ?_
                        refine z_iinc (v := nI (p + 1)) (ls' := [some (.ref (n0 + 113)), some (.int (nI a)), some (.int (nI b)), some (.int 1), some (.int (nI (sumTo (mDf1 y a b 1) p + 0))), some (.int (nI (p + 1))), some (.int (mSort y a b p)), some (.int 1)]) C rfl (cv_inc p 1) (by decide) rfl dX5_differ_131 ?_
                        refine z_goto (tgt := 40) C dX5_differ_134 (by decide) ?_
                        exact z_cast (σ1 := (κ, y, o)) (ls' := [some (.ref (n0 + 113)), some (.int (nI a)), some (.int (nI b)), some (.int 1), some (.int (nI (sumTo (mDf1 y a b 1) (p + 1)))), some (.int (nI (p + 1))), none, none]) (st' := []) (ih_40) rfl ⟨rfl, rfl, rfl, rfl, (so_int (by simp [sumTo, mDf1, h_120])), rfl, trivial⟩ rfl
                      · skip
                        refine z_iconst (v := 1) C (by decide +kernel) dX5_differ_123 ?_
                        refine z_goto (tgt := 128) C dX5_differ_124 (by decide) ?_
                        refine z_iadd (v := nI (sumTo (mDf1 y a b 1) p + 1)) C (cv_add (sumTo (mDf1 y a b 1) p) 1) dX5_differ_128 ?_
                        refine z_istore (ls' := [some (.ref (n0 + 113)), some (.int (nI a)), some (.int (nI b)), some (.int 1), some (.int (nI (sumTo (mDf1 y a b 1) p + 1))), some (.int (nI p)), some (.int (mSort y a b p)), some (.int 1)]) C (by decide) rfl dX5_differ_129 ?_
                        refine z_iinc (v := nI (p + 1)) (ls' := [some (.ref (n0 + 113)), some (.int (nI a)), some (.int (nI b)), some (.int 1), some (.int (nI (sumTo (mDf1 y a b 1) p + 1))), some (.int (nI (p + 1))), some (.int (mSort y a b p)), some (.int 1)]) C rfl (cv_inc p 1) (by decide) rfl dX5_differ_131 ?_
                        refine z_goto (tgt := 40) C dX5_differ_134 (by decide) ?_
                        exact z_cast (σ1 := (κ, y, o)) (ls' := [some (.ref (n0 + 113)), some (.int (nI a)), some (.int (nI b)), some (.int 1), some (.int (nI (sumTo (mDf1 y a b 1) (p + 1)))), some (.int (nI (p + 1))), none, none]) (st' := []) (ih_40) rfl ⟨rfl, rfl, rfl, rfl, (so_int (by simp [sumTo, mDf1, h_120])), rfl, trivial⟩ rfl
                    · exact absurd h_101 (by decide +kernel)
                  · have g_72 := cv_ne (a := p) (b := 0) h_72
                    refine z_aload_n C rfl dX5_differ_75 ?_
                    refine z_iload_n C rfl dX5_differ_76 ?_
                    refine z_iload_n C rfl dX5_differ_77 ?_
                    refine z_iload C rfl dX5_differ_78 ?_
                    refine z_iconst (v := 1) C (by decide +kernel) dX5_differ_80 ?_
                    refine z_isub (v := nI (p - 1)) C (cv_sub (b := 1) (by omega)) dX5_differ_81 ?_
                    refine z_callV (As := [.int (nI a), .int (nI b), .int (nI (p - 1))]) (r := (some (.int (mSort y a b (p - 1))))) (σ1 := (κ, y, o)) (st := []) (st1 := [.int (mSort y a b (p - 1))]) C K ok_X5_176 (c_X5_sortAt l D n0 κ y o a b (p - 1) (by omega) (by omega) (by omega)) enc_M (by decide) rfl rfl ⟨by decide, by decide⟩ ⟨Nat.zero_le _, Nat.zero_le _⟩ (by simp [Value.category]) dX5_differ_82 rfl rfl ?_
                    refine z_iload C rfl dX5_differ_85 ?_
                    refine z_icmp_eq (tgt := 94) C dX5_differ_87 (by decide) (fun h_87 => ?_) (fun h_87 => ?_)
                    · skip
                      refine z_iconst (v := 0) C (by decide +kernel) dX5_differ_94 ?_
                      refine z_istore (ls' := [some (.ref (n0 + 113)), some (.int (nI a)), some (.int (nI b)), some (.int 1), some (.int (nI (sumTo (mDf1 y a b 1) p))), some (.int (nI p)), some (.int (mSort y a b p)), some (.int 0)]) C (by decide) rfl dX5_differ_95 ?_
                      refine z_iload C rfl dX5_differ_97 ?_
                      refine z_iload_n C rfl dX5_differ_99 ?_
                      refine z_iconst (v := 4) C (by decide +kernel) dX5_differ_100 ?_
                      refine z_icmp_ne (tgt := 117) C dX5_differ_101 (by decide) (fun h_101 => ?_) (fun h_101 => ?_)
                      · skip
                        refine z_iload C rfl dX5_differ_117 ?_
                        refine z_iload_n C rfl dX5_differ_119 ?_
                        refine z_icmp_ne (tgt := 127) C dX5_differ_120 (by decide) (fun h_120 => ?_) (fun h_120 => ?_)
                        · skip
                          refine z_iconst (v := 0) C (by decide +kernel) dX5_differ_127 ?_
                          refine z_iadd (v := nI (sumTo (mDf1 y a b 1) p + 0)) C (cv_add (sumTo (mDf1 y a b 1) p) 0) dX5_differ_128 ?_
                          refine z_istore (ls' := [some (.ref (n0 + 113)), some (.int (nI a)), some (.int (nI b)), some (.int 1), some (.int (nI (sumTo (mDf1 y a b 1) p + 0))), some (.int (nI p)), some (.int (mSort y a b p)), some (.int 0)]) C (by decide) rfl dX5_differ_129 ?_
                          refine z_iinc (v := nI (p + 1)) (ls' := [some (.ref (n0 + 113)), some (.int (nI a)), some (.int (nI b)), some (.int 1), some (.int (nI (sumTo (mDf1 y a b 1) p + 0))), some (.int (nI (p + 1))), some (.int (mSort y a b p)), some (.int 0)]) C rfl (cv_inc p 1) (by decide) rfl dX5_differ_131 ?_
                          refine z_goto (tgt := 40) C dX5_differ_134 (by decide) ?_
                          exact z_cast (σ1 := (κ, y, o)) (ls' := [some (.ref (n0 + 113)), some (.int (nI a)), some (.int (nI b)), some (.int 1), some (.int (nI (sumTo (mDf1 y a b 1) (p + 1)))), some (.int (nI (p + 1))), none, none]) (st' := []) (ih_40) rfl ⟨rfl, rfl, rfl, rfl, (so_int (by simp [sumTo, mDf1, h_120])), rfl, trivial⟩ rfl
                        · skip
                          refine z_iconst (v := 1) C (by decide +kernel) dX5_differ_123 ?_
                          refine z_goto (tgt := 128) C dX5_differ_124 (by decide) ?_
                          refine z_iadd (v := nI (sumTo (mDf1 y a b 1) p + 1)) C (cv_add (sumTo (mDf1 y a b 1) p) 1) dX5_differ_128 ?_
                          refine z_istore (ls' := [some (.ref (n0 + 113)), some (.int (nI a)), some (.int (nI b)), some (.int 1), some (.int (nI (sumTo (mDf1 y a b 1) p + 1))), some (.int (nI p)), some (.int (mSort y a b p)), some (.int 0)]) C (by decide) rfl dX5_differ_129 ?_
                          refine z_iinc (v := nI (p + 1)) (ls' := [some (.ref (n0 + 113)), some (.int (nI a)), some (.int (nI b)), some (.int 1), some (.int (nI (sumTo (mDf1 y a b 1) p + 1))), some (.int (nI (p + 1))), some (.int (mSort y a b p)), some (.int 0)]) C rfl (cv_inc p 1) (by decide) rfl dX5_differ_131 ?_
                          refine z_goto (tgt := 40) C dX5_differ_134 (by decide) ?_
                          exact z_cast (σ1 := (κ, y, o)) (ls' := [some (.ref (n0 + 113)), some (.int (nI a)), some (.int (nI b)), some (.int 1), some (.int (nI (sumTo (mDf1 y a b 1) (p + 1)))), some (.int (nI (p + 1))), none, none]) (st' := []) (ih_40) rfl ⟨rfl, rfl, rfl, rfl, (so_int (by simp [sumTo, mDf1, h_120])), rfl, trivial⟩ rfl
                      · exact absurd h_101 (by decide +kernel)
                    · skip
                      refine z_iconst (v := 1) C (by decide +kernel) dX5_differ_90 ?_
                      refine z_goto (tgt := 95) C dX5_differ_91 (by decide) ?_
                      refine z_istore (ls' := [some (.ref (n0 + 113)), some (.int (nI a)), some (.int (nI b)), some (.int 1), some (.int (nI (sumTo (mDf1 y a b 1) p))), some (.int (nI p)), some (.int (mSort y a b p)), some (.int 1)]) C (by decide) rfl dX5_differ_95 ?_
                      refine z_iload C rfl dX5_differ_97 ?_
                      refine z_iload_n C rfl dX5_differ_99 ?_
                      refine z_iconst (v := 4) C (by decide +kernel) dX5_differ_100 ?_
                      refine z_icmp_ne (tgt := 117) C dX5_differ_101 (by decide) (fun h_101 => ?_) (fun h_101 => ?_)
                      · skip
                        refine z_iload C rfl dX5_differ_117 ?_
                        refine z_iload_n C rfl dX5_differ_119 ?_
                        refine z_icmp_ne (tgt := 127) C dX5_differ_120 (by decide) (fun h_120 => ?_) (fun h_120 => ?_)
                        · skip
                          refine z_iconst (v := 0) C (by decide +kernel) dX5_differ_127 ?_
                          refine z_iadd (v := nI (sumTo (mDf1 y a b 1) p + 0)) C (cv_add (sumTo (mDf1 y a b 1) p) 0) dX5_differ_128 ?_
                          refine z_istore (ls' := [some (.ref (n0 + 113)), some (.int (nI a)), some (.int (nI b)), some (.int 1), some (.int (nI (sumTo (mDf1 y a b 1) p + 0))), some (.int (nI p)), some (.int (mSort y a b p)), some (.int 1)]) C (by decide) rfl dX5_differ_129 ?_
                          refine z_iinc (v := nI (p + 1)) (ls' := [some (.ref (n0 + 113)), some (.int (nI a)), some (.int (nI b)), some (.int 1), some (.int (nI (sumTo (mDf1 y a b 1) p + 0))), some (.int (nI (p + 1))), some (.int (mSort y a b p)), some (.int 1)]) C rfl (cv_inc p 1) (by decide) rfl dX5_differ_131 ?_
                          refine z_goto (tgt := 40) C dX5_differ_134 (by decide) ?_
                          exact z_cast (σ1 := (κ, y, o)) (ls' := [some (.ref (n0 + 113)), some (.int (nI a)), some (.int (nI b)), some (.int 1), some (.int (nI (sumTo (mDf1 y a b 1) (p + 1)))), some (.int (nI (p + 1))), none, none]) (st' := []) (ih_40) rfl ⟨rfl, rfl, rfl, rfl, (so_int (by simp [sumTo, mDf1, h_120])), rfl, trivial⟩ rfl
                        · skip
                          refine z_iconst (v := 1) C (by decide +kernel) dX5_differ_123 ?_
                          refine z_goto (tgt := 128) C dX5_differ_124 (by decide) ?_
                          refine z_iadd (v := nI (sumTo (mDf1 y a b 1) p + 1)) C (cv_add (sumTo (mDf1 y a b 1) p) 1) dX5_differ_128 ?_
                          refine z_istore (ls' := [some (.ref (n0 + 113)), some (.int (nI a)), some (.int (nI b)), some (.int 1), some (.int (nI (sumTo (mDf1 y a b 1) p + 1))), some (.int (nI p)), some (.int (mSort y a b p)), some (.int 1)]) C (by decide) rfl dX5_differ_129 ?_
                          refine z_iinc (v := nI (p + 1)) (ls' := [some (.ref (n0 + 113)), some (.int (nI a)), some (.int (nI b)), some (.int 1), some (.int (nI (sumTo (mDf1 y a b 1) p + 1))), some (.int (nI (p + 1))), some (.int (mSort y a b p)), some (.int 1)]) C rfl (cv_inc p 1) (by decide) rfl dX5_differ_131 ?_
                          refine z_goto (tgt := 40) C dX5_differ_134 (by decide) ?_
                          exact z_cast (σ1 := (κ, y, o)) (ls' := [some (.ref (n0 + 113)), some (.int (nI a)), some (.int (nI b)), some (.int 1), some (.int (nI (sumTo (mDf1 y a b 1) (p + 1)))), some (.int (nI (p + 1))), none, none]) (st' := []) (ih_40) rfl ⟨rfl, rfl, rfl, rfl, (so_int (by simp [sumTo, mDf1, h_120])), rfl, trivial⟩ rfl
                      · exact absurd h_101 (by decide +kernel)
        · exact absurd h_23 (by decide +kernel)
set_option maxHeartbeats 4000000 in
set_option maxRecDepth 100000 in
theorem c_X5_differ_2 (l : Launch) (D : DD) (n0 : Nat) (κ μ : KH) (o : Int64) (a b : Nat) (ha : a < 16) (hb : b < 16) (h1 : μ 1 a ≠ 0) (h2 : μ 1 b ≠ 0) (y : KH) (hy : y = up μ 0 0 0) : HM l D n0 yX5_differ cX5_differ 8 (some .int) 2 47 [.ref (n0 + 113), .int (nI a), .int (nI b), .int 2] (κ, μ, o) (some (.int (nI (sumTo (mDf1 y a b 2) 40)))) (κ, y, o) := by
  refine HM.of (by decide) (by simp [Value.category]) (by simp) (Or.inr (Or.inl ⟨_, .int, rfl, rfl, rfl⟩)) ?_
  intro pp ee ss mm aa bb me cd Q C K hret
  show ZZ pp l ee (rmk 2 47) ss mm aa bb me cd D n0 127 8 0 0 Q _ 0 [some (.ref (n0 + 113)), some (.int (nI a)), some (.int (nI b)), some (.int 2), none, none, none, none] []
  refine z_aload_n C rfl dX5_differ_0 ?_
  refine z_aload_n C rfl dX5_differ_1 ?_
  refine z_iload_n C rfl dX5_differ_2 ?_
  refine z_callV (As := [.int (nI a)]) (r := (some (.int (b2i (!decide (μ 1 a = 0)))))) (σ1 := (κ, μ, o)) (st := [.ref (n0 + 113)]) (st1 := [.int (b2i (!decide (μ 1 a = 0))), .ref (n0 + 113)]) C K ok_X5_126 (c_X5_isVolume l D n0 κ μ o a (by omega)) enc_M (by decide) rfl rfl ⟨by decide, by decide⟩ ⟨Nat.zero_le _, Nat.zero_le _⟩ (by simp [Value.category]) dX5_differ_3 rfl rfl ?_
  refine z_if_eq (tgt := 26) C dX5_differ_6 (by decide) (fun h_6 => ?_) (fun h_6 => ?_)
  · have g_6 := cv_b0 h_6
    exact absurd g_6 (by simp [h1])
  · have g_6 := cv_b1 h_6
    refine z_aload_n C rfl dX5_differ_9 ?_
    refine z_iload_n C rfl dX5_differ_10 ?_
    refine z_callV (As := [.int (nI b)]) (r := (some (.int (b2i (!decide (μ 1 b = 0)))))) (σ1 := (κ, μ, o)) (st := [.ref (n0 + 113)]) (st1 := [.int (b2i (!decide (μ 1 b = 0))), .ref (n0 + 113)]) C K ok_X5_126 (c_X5_isVolume l D n0 κ μ o b (by omega)) enc_M (by decide) rfl rfl ⟨by decide, by decide⟩ ⟨Nat.zero_le _, Nat.zero_le _⟩ (by simp [Value.category]) dX5_differ_11 rfl rfl ?_
    refine z_if_eq (tgt := 26) C dX5_differ_14 (by decide) (fun h_14 => ?_) (fun h_14 => ?_)
    · have g_14 := cv_b0 h_14
      exact absurd g_14 (by simp [h2])
    · have g_14 := cv_b1 h_14
      refine z_iload_n C rfl dX5_differ_17 ?_
      refine z_if_lt (tgt := 26) C dX5_differ_18 (by decide) (fun h_18 => ?_) (fun h_18 => ?_)
      · exact absurd h_18 (by decide +kernel)
      · skip
        refine z_iload_n C rfl dX5_differ_21 ?_
        refine z_iconst (v := 4) C (by decide +kernel) dX5_differ_22 ?_
        refine z_icmp_le (tgt := 30) C dX5_differ_23 (by decide) (fun h_23 => ?_) (fun h_23 => ?_)
        · skip
          refine z_iconst (v := 0) C (by decide +kernel) dX5_differ_30 ?_
          refine pf_X5_51 (x := 0) C dX5_differ_31 ?_
          rw [← hy]
          refine z_iconst (v := 0) C (by decide +kernel) dX5_differ_34 ?_
          refine z_istore (ls' := [some (.ref (n0 + 113)), some (.int (nI a)), some (.int (nI b)), some (.int 2), some (.int 0), none, none, none]) C (by decide) rfl dX5_differ_35 ?_
          refine z_iconst (v := 0) C (by decide +kernel) dX5_differ_37 ?_
          refine z_istore (ls' := [some (.ref (n0 + 113)), some (.int (nI a)), some (.int (nI b)), some (.int 2), some (.int 0), some (.int 0), none, none]) C (by decide) rfl dX5_differ_38 ?_
          refine z_cast (σ1 := (κ, y, o)) (ls' := [some (.ref (n0 + 113)), some (.int (nI a)), some (.int (nI b)), some (.int 2), some (.int (nI (sumTo (mDf1 y a b 2) 0))), some (.int (nI 0)), none, none]) (st' := []) (z_for (P := fun p => ZZ pp l ee (rmk 2 47) ss mm aa bb me cd D n0 127 8 0 0 Q (κ, y, o) 40 [some (.ref (n0 + 113)), some (.int (nI a)), some (.int (nI b)), some (.int 2), some (.int (nI (sumTo (mDf1 y a b 2) p))), some (.int (nI p)), none, none] []) (40) ?_ ?_ 0 (Nat.zero_le _)) rfl ⟨rfl, rfl, rfl, rfl, (so_int rfl), rfl, trivial⟩ rfl
          · skip
            refine z_iload C rfl dX5_differ_40 ?_
            refine z_bipush (v := 40) C (by decide +kernel) dX5_differ_42 ?_
            refine z_icmp_ge (tgt := 137) C dX5_differ_44 (by decide) (fun h_44 => ?_) (fun h_44 => ?_)
            · have g_44 := cv_le (a := 40) (b := 40) (by omega) (by omega) h_44
              refine z_iload C rfl dX5_differ_137 ?_
              exact z_endI (hret _ _ dX5_differ_139) rfl rfl
            · have g_44 := cv_nle (a := 40) (b := 40) (by omega) (by omega) h_44
              exact absurd g_44 (by omega)
          · intro p hi_40 ih_40
            refine z_iload C rfl dX5_differ_40 ?_
            refine z_bipush (v := 40) C (by decide +kernel) dX5_differ_42 ?_
            refine z_icmp_ge (tgt := 137) C dX5_differ_44 (by decide) (fun h_44 => ?_) (fun h_44 => ?_)
            · have g_44 := cv_le (a := 40) (b := p) (by omega) (by omega) h_44
              exact absurd hi_40 (by omega)
            · have g_44 := cv_nle (a := 40) (b := p) (by omega) (by omega) h_44
              refine z_aload_n C rfl dX5_differ_47 ?_
              refine gf_X5_51 (v := 0) C (by rw [hy]; exact up_self) dX5_differ_48 ?_
              refine z_if_ne (tgt := 137) C dX5_differ_51 (by decide) (fun h_51 => ?_) (fun h_51 => ?_)
              · exact absurd h_51 (by decide +kernel)
              · skip
                refine z_aload_n C rfl dX5_differ_54 ?_
                refine z_iload_n C rfl dX5_differ_55 ?_
                refine z_iload_n C rfl dX5_differ_56 ?_
                refine z_iload C rfl dX5_differ_57 ?_
                refine z_callV (As := [.int (nI a), .int (nI b), .int (nI p)]) (r := (some (.int (mSort y a b p)))) (σ1 := (κ, y, o)) (st := []) (st1 := [.int (mSort y a b p)]) C K ok_X5_176 (c_X5_sortAt l D n0 κ y o a b p (by omega) (by omega) (by omega)) enc_M (by decide) rfl rfl ⟨by decide, by decide⟩ ⟨Nat.zero_le _, Nat.zero_le _⟩ (by simp [Value.category]) dX5_differ_59 rfl rfl ?_
                refine z_istore (ls' := [some (.ref (n0 + 113)), some (.int (nI a)), some (.int (nI b)), some (.int 2), some (.int (nI (sumTo (mDf1 y a b 2) p))), some (.int (nI p)), some (.int (mSort y a b p)), none]) C (by decide) rfl dX5_differ_62 ?_
                refine z_iload C rfl dX5_differ_64 ?_
                refine z_iconst (v := (-1)) C (by decide +kernel) dX5_differ_66 ?_
                refine z_icmp_eq (tgt := 94) C dX5_differ_67 (by decide) (fun h_67 => ?_) (fun h_67 => ?_)
                · skip
                  refine z_iconst (v := 0) C (by decide +kernel) dX5_differ_94 ?_
                  refine z_istore (ls' := [some (.ref (n0 + 113)), some (.int (nI a)), some (.int (nI b)), some (.int 2), some (.int (nI (sumTo (mDf1 y a b 2) p))), some (.int (nI p)), some (.int (mSort y a b p)), some (.int 0)]) C (by decide) rfl dX5_differ_95 ?_
                  refine z_iload C rfl dX5_differ_97 ?_
                  refine z_iload_n C rfl dX5_differ_99 ?_
                  refine z_iconst (v := 4) C (by decide +kernel) dX5_differ_100 ?_
                  refine z_icmp_ne (tgt := 117) C dX5_differ_101 (by decide) (fun h_101 => ?_) (fun h_101 => ?_)
                  · skip
                    refine z_iload C rfl dX5_differ_117 ?_
                    refine z_iload_n C rfl dX5_differ_119 ?_
                    refine z_icmp_ne (tgt := 127) C dX5_differ_120 (by decide) (fun h_120 => ?_) (fun h_120 => ?_)
                    · skip
                      refine z_iconst (v := 0) C (by decide +kernel) dX5_differ_127 ?_
                      refine z_iadd (v := nI (sumTo (mDf1 y a b 2) p + 0)) C (cv_add (sumTo (mDf1 y a b 2) p) 0) dX5_differ_128 ?_
                      refine z_istore (ls' := [some (.ref (n0 + 113)), some (.int (nI a)), some (.int (nI b)), some (.int 2), some (.int (nI (sumTo (mDf1 y a b 2) p + 0))), some (.int (nI p)), some (.int (mSort y a b p)), some (.int 0)]) C (by decide) rfl dX5_differ_129 ?_
                      refine z_iinc (v := nI (p + 1)) (ls' := [some (.ref (n0 + 113)), some (.int (nI a)), some (.int (nI b)), some (.int 2), some (.int (nI (sumTo (mDf1 y a b 2) p + 0))), some (.int (nI (p + 1))), some (.int (mSort y a b p)), some (.int 0)]) C rfl (cv_inc p 1) (by decide) rfl dX5_differ_131 ?_
                      refine z_goto (tgt := 40) C dX5_differ_134 (by decide) ?_
                      exact z_cast (σ1 := (κ, y, o)) (ls' := [some (.ref (n0 + 113)), some (.int (nI a)), some (.int (nI b)), some (.int 2), some (.int (nI (sumTo (mDf1 y a b 2) (p + 1)))), some (.int (nI (p + 1))), none, none]) (st' := []) (ih_40) rfl ⟨rfl, rfl, rfl, rfl, (so_int (by simp [sumTo, mDf1, h_120])), rfl, trivial⟩ rfl
                    · skip
                      refine z_iconst (v := 1) C (by decide +kernel) dX5_differ_123 ?_
                      refine z_goto (tgt := 128) C dX5_differ_124 (by decide) ?_
                      refine z_iadd (v := nI (sumTo (mDf1 y a b 2) p + 1)) C (cv_add (sumTo (mDf1 y a b 2) p) 1) dX5_differ_128 ?_
                      refine z_istore (ls' := [some (.ref (n0 + 113)), some (.int (nI a)), some (.int (nI b)), some (.int 2), some (.int (nI (sumTo (mDf1 y a b 2) p + 1))), some (.int (nI p)), some (.int (mSort y a b p)), some (.int 0)]) C (by decide) rfl dX5_differ_129 ?_
                      refine z_iinc (v := nI (p + 1)) (ls' := [some (.ref (n0 + 113)), some (.int (nI a)), some (.int (nI b)), some (.int 2), some (.int (nI (sumTo (mDf1 y a b 2) p + 1))), some (.int (nI (p + 1))), some (.int (mSort y a b p)), some (.int 0)]) C rfl (cv_inc p 1) (by decide) rfl dX5_differ_131 ?_
                      refine z_goto (tgt := 40) C dX5_differ_134 (by decide) ?_
                      exact z_cast (σ1 := (κ, y, o)) (ls' := [some (.ref (n0 + 113)), some (.int (nI a)), some (.int (nI b)), some (.int 2), some (.int (nI (sumTo (mDf1 y a b 2) (p + 1)))), some (.int (nI (p + 1))), none, none]) (st' := []) (ih_40) rfl ⟨rfl, rfl, rfl, rfl, (so_int (by simp [sumTo, mDf1, h_120])), rfl, trivial⟩ rfl
                  · exact absurd h_101 (by decide +kernel)
                · skip
                  refine z_iload C rfl dX5_differ_70 ?_
                  refine z_if_eq (tgt := 90) C dX5_differ_72 (by decide) (fun h_72 => ?_) (fun h_72 => ?_)
                  · have g_72 := cv_eq (a := p) (b := 0) (by omega) (by omega) h_72
                    refine z_iconst (v := 1) C (by decide +kernel) dX5_differ_90 ?_
                    refine z_goto (tgt := 95) C dX5_differ_91 (by decide) ?_
                    refine z_istore (ls' := [some (.ref (n0 + 113)), some (.int (nI a)), some (.int (nI b)), some (.int 2), some (.int (nI (sumTo (mDf1 y a b 2) p))), some (.int (nI p)), some (.int (mSort y a b p)), some (.int 1)]) C (by decide) rfl dX5_differ_95 ?_
                    refine z_iload C rfl dX5_differ_97 ?_
                    refine z_iload_n C rfl dX5_differ_99 ?_
                    refine z_iconst (v := 4) C (by decide +kernel) dX5_differ_100 ?_
                    refine z_icmp_ne (tgt := 117) C dX5_differ_101 (by decide) (fun h_101 => ?_) (fun h_101 => ?_)
                    · skip
                      refine z_iload C rfl dX5_differ_117 ?_
                      refine z_iload_n C rfl dX5_differ_119 ?_
                      refine z_icmp_ne (tgt := 127) C dX5_differ_120 (by decide) (fun h_120 => ?_) (fun h_120 => ?_)
                      · skip
                        refine z_iconst (v := 0) C (by decide +kernel) dX5_differ_127 ?_
                        refine z_iadd (v := nI (sumTo (mDf1 y a b 2) p + 0)) C (cv_add (sumTo (mDf1 y a b 2) p) 0) dX5_differ_128 ?_
                        refine z_istore (ls' := [some (.ref (n0 + 113)), some (.int (nI a)), some (.int (nI b)), some (.int 2), some (.int (nI (sumTo (mDf1 y a b 2) p + 0))), some (.int (nI p)), some (.int (mSort y a b p)), some (.int 1)]) C (by decide) rfl dX5_differ_129 ?_
                        refine z_iinc (v := nI (p + 1)) (ls' := [some (.ref (n0 + 113)), some (.int (nI a)), some (.int (nI b)), some (.int 2), some (.int (nI (sumTo (mDf1 y a b 2) p + 0))), some (.int (nI (p + 1))), some (.int (mSort y a b p)), some (.int 1)]) C rfl (cv_inc p 1) (by decide) rfl dX5_differ_131 ?_
                        refine z_goto (tgt := 40) C dX5_differ_134 (by decide) ?_
                        exact z_cast (σ1 := (κ, y, o)) (ls' := [some (.ref (n0 + 113)), some (.int (nI a)), some (.int (nI b)), some (.int 2), some (.int (nI (sumTo (mDf1 y a b 2) (p + 1)))), some (.int (nI (p + 1))), none, none]) (st' := []) (ih_40) rfl ⟨rfl, rfl, rfl, rfl, (so_int (by simp [sumTo, mDf1, h_120])), rfl, trivial⟩ rfl
                      · skip
                        refine z_iconst (v := 1) C (by decide +kernel) dX5_differ_123 ?_
                        refine z_goto (tgt := 128) C dX5_differ_124 (by decide) ?_
                        refine z_iadd (v := nI (sumTo (mDf1 y a b 2) p + 1)) C (cv_add (sumTo (mDf1 y a b 2) p) 1) dX5_differ_128 ?_
                        refine z_istore (ls' := [some (.ref (n0 + 113)), some (.int (nI a)), some (.int (nI b)), some (.int 2), some (.int (nI (sumTo (mDf1 y a b 2) p + 1))), some (.int (nI p)), some (.int (mSort y a b p)), some (.int 1)]) C (by decide) rfl dX5_differ_129 ?_
                        refine z_iinc (v := nI (p + 1)) (ls' := [some (.ref (n0 + 113)), some (.int (nI a)), some (.int (nI b)), some (.int 2), some (.int (nI (sumTo (mDf1 y a b 2) p + 1))), some (.int (nI (p + 1))), some (.int (mSort y a b p)), some (.int 1)]) C rfl (cv_inc p 1) (by decide) rfl dX5_differ_131 ?_
                        refine z_goto (tgt := 40) C dX5_differ_134 (by decide) ?_
                        exact z_cast (σ1 := (κ, y, o)) (ls' := [some (.ref (n0 + 113)), some (.int (nI a)), some (.int (nI b)), some (.int 2), some (.int (nI (sumTo (mDf1 y a b 2) (p + 1)))), some (.int (nI (p + 1))), none, none]) (st' := []) (ih_40) rfl ⟨rfl, rfl, rfl, rfl, (so_int (by simp [sumTo, mDf1, h_120])), rfl, trivial⟩ rfl
                    · exact absurd h_101 (by decide +kernel)
                  · have g_72 := cv_ne (a := p) (b := 0) h_72
                    refine z_aload_n C rfl dX5_differ_75 ?_
                    refine z_iload_n C rfl dX5_differ_76 ?_
                    refine z_iload_n C rfl dX5_differ_77 ?_
                    refine z_iload C rfl dX5_differ_78 ?_
                    refine z_iconst (v := 1) C (by decide +kernel) dX5_differ_80 ?_
                    refine z_isub (v := nI (p - 1)) C (cv_sub (b := 1) (by omega)) dX5_differ_81 ?_
                    refine z_callV (As := [.int (nI a), .int (nI b), .int (nI (p - 1))]) (r := (some (.int (mSort y a b (p - 1))))) (σ1 := (κ, y, o)) (st := []) (st1 := [.int (mSort y a b (p - 1))]) C K ok_X5_176 (c_X5_sortAt l D n0 κ y o a b (p - 1) (by omega) (by omega) (by omega)) enc_M (by decide) rfl rfl ⟨by decide, by decide⟩ ⟨Nat.zero_le _, Nat.zero_le _⟩ (by simp [Value.category]) dX5_differ_82 rfl rfl ?_
                    refine z_iload C rfl dX5_differ_85 ?_
                    refine z_icmp_eq (tgt := 94) C dX5_differ_87 (by decide) (fun h_87 => ?_) (fun h_87 => ?_)
                    · skip
                      refine z_iconst (v := 0) C (by decide +kernel) dX5_differ_94 ?_
                      refine z_istore (ls' := [some (.ref (n0 + 113)), some (.int (nI a)), some (.int (nI b)), some (.int 2), some (.int (nI (sumTo (mDf1 y a b 2) p))), some (.int (nI p)), some (.int (mSort y a b p)), some (.int 0)]) C (by decide) rfl dX5_differ_95 ?_
                      refine z_iload C rfl dX5_differ_97 ?_
                      refine z_iload_n C rfl dX5_differ_99 ?_
                      refine z_iconst (v := 4) C (by decide +kernel) dX5_differ_100 ?_
                      refine z_icmp_ne (tgt := 117) C dX5_differ_101 (by decide) (fun h_101 => ?_) (fun h_101 => ?_)
                      · skip
                        refine z_iload C rfl dX5_differ_117 ?_
                        refine z_iload_n C rfl dX5_differ_119 ?_
                        refine z_icmp_ne (tgt := 127) C dX5_differ_120 (by decide) (fun h_120 => ?_) (fun h_120 => ?_)
                        · skip
                          refine z_iconst (v := 0) C (by decide +kernel) dX5_differ_127 ?_
                          refine z_iadd (v := nI (sumTo (mDf1 y a b 2) p + 0)) C (cv_add (sumTo (mDf1 y a b 2) p) 0) dX5_differ_128 ?_
                          refine z_istore (ls' := [some (.ref (n0 + 113)), some (.int (nI a)), some (.int (nI b)), some (.int 2), some (.int (nI (sumTo (mDf1 y a b 2) p + 0))), some (.int (nI p)), some (.int (mSort y a b p)), some (.int 0)]) C (by decide) rfl dX5_differ_129 ?_
                          refine z_iinc (v := nI (p + 1)) (ls' := [some (.ref (n0 + 113)), some (.int (nI a)), some (.int (nI b)), some (.int 2), some (.int (nI (sumTo (mDf1 y a b 2) p + 0))), some (.int (nI (p + 1))), some (.int (mSort y a b p)), some (.int 0)]) C rfl (cv_inc p 1) (by decide) rfl dX5_differ_131 ?_
                          refine z_goto (tgt := 40) C dX5_differ_134 (by decide) ?_
                          exact z_cast (σ1 := (κ, y, o)) (ls' := [some (.ref (n0 + 113)), some (.int (nI a)), some (.int (nI b)), some (.int 2), some (.int (nI (sumTo (mDf1 y a b 2) (p + 1)))), some (.int (nI (p + 1))), none, none]) (st' := []) (ih_40) rfl ⟨rfl, rfl, rfl, rfl, (so_int (by simp [sumTo, mDf1, h_120])), rfl, trivial⟩ rfl
                        · skip
                          refine z_iconst (v := 1) C (by decide +kernel) dX5_differ_123 ?_
                          refine z_goto (tgt := 128) C dX5_differ_124 (by decide) ?_
                          refine z_iadd (v := nI (sumTo (mDf1 y a b 2) p + 1)) C (cv_add (sumTo (mDf1 y a b 2) p) 1) dX5_differ_128 ?_
                          refine z_istore (ls' := [some (.ref (n0 + 113)), some (.int (nI a)), some (.int (nI b)), some (.int 2), some (.int (nI (sumTo (mDf1 y a b 2) p + 1))), some (.int (nI p)), some (.int (mSort y a b p)), some (.int 0)]) C (by decide) rfl dX5_differ_129 ?_
                          refine z_iinc (v := nI (p + 1)) (ls' := [some (.ref (n0 + 113)), some (.int (nI a)), some (.int (nI b)), some (.int 2), some (.int (nI (sumTo (mDf1 y a b 2) p + 1))), some (.int (nI (p + 1))), some (.int (mSort y a b p)), some (.int 0)]) C rfl (cv_inc p 1) (by decide) rfl dX5_differ_131 ?_
                          refine z_goto (tgt := 40) C dX5_differ_134 (by decide) ?_
                          exact z_cast (σ1 := (κ, y, o)) (ls' := [some (.ref (n0 + 113)), some (.int (nI a)), some (.int (nI b)), some (.int 2), some (.int (nI (sumTo (mDf1 y a b 2) (p + 1)))), some (.int (nI (p + 1))), none, none]) (st' := []) (ih_40) rfl ⟨rfl, rfl, rfl, rfl, (so_int (by simp [sumTo, mDf1, h_120])), rfl, trivial⟩ rfl
                      · exact absurd h_101 (by decide +kernel)
                    · skip
                      refine z_iconst (v := 1) C (by decide +kernel) dX5_differ_90 ?_
                      refine z_goto (tgt := 95) C dX5_differ_91 (by decide) ?_
                      refine z_istore (ls' := [some (.ref (n0 + 113)), some (.int (nI a)), some (.int (nI b)), some (.int 2), some (.int (nI (sumTo (mDf1 y a b 2) p))), some (.int (nI p)), some (.int (mSort y a b p)), some (.int 1)]) C (by decide) rfl dX5_differ_95 ?_
                      refine z_iload C rfl dX5_differ_97 ?_
                      refine z_iload_n C rfl dX5_differ_99 ?_
                      refine z_iconst (v := 4) C (by decide +kernel) dX5_differ_100 ?_
                      refine z_icmp_ne (tgt := 117) C dX5_differ_101 (by decide) (fun h_101 => ?_) (fun h_101 => ?_)
                      · skip
                        refine z_iload C rfl dX5_differ_117 ?_
                        refine z_iload_n C rfl dX5_differ_119 ?_
                        refine z_icmp_ne (tgt := 127) C dX5_differ_120 (by decide) (fun h_120 => ?_) (fun h_120 => ?_)
                        · skip
                          refine z_iconst (v := 0) C (by decide +kernel) dX5_differ_127 ?_
                          refine z_iadd (v := nI (sumTo (mDf1 y a b 2) p + 0)) C (cv_add (sumTo (mDf1 y a b 2) p) 0) dX5_differ_128 ?_
                          refine z_istore (ls' := [some (.ref (n0 + 113)), some (.int (nI a)), some (.int (nI b)), some (.int 2), some (.int (nI (sumTo (mDf1 y a b 2) p + 0))), some (.int (nI p)), some (.int (mSort y a b p)), some (.int 1)]) C (by decide) rfl dX5_differ_129 ?_
                          refine z_iinc (v := nI (p + 1)) (ls' := [some (.ref (n0 + 113)), some (.int (nI a)), some (.int (nI b)), some (.int 2), some (.int (nI (sumTo (mDf1 y a b 2) p + 0))), some (.int (nI (p + 1))), some (.int (mSort y a b p)), some (.int 1)]) C rfl (cv_inc p 1) (by decide) rfl dX5_differ_131 ?_
                          refine z_goto (tgt := 40) C dX5_differ_134 (by decide) ?_
                          exact z_cast (σ1 := (κ, y, o)) (ls' := [some (.ref (n0 + 113)), some (.int (nI a)), some (.int (nI b)), some (.int 2), some (.int (nI (sumTo (mDf1 y a b 2) (p + 1)))), some (.int (nI (p + 1))), none, none]) (st' := []) (ih_40) rfl ⟨rfl, rfl, rfl, rfl, (so_int (by simp [sumTo, mDf1, h_120])), rfl, trivial⟩ rfl
                        · skip
                          refine z_iconst (v := 1) C (by decide +kernel) dX5_differ_123 ?_
                          refine z_goto (tgt := 128) C dX5_differ_124 (by decide) ?_
                          refine z_iadd (v := nI (sumTo (mDf1 y a b 2) p + 1)) C (cv_add (sumTo (mDf1 y a b 2) p) 1) dX5_differ_128 ?_
                          refine z_istore (ls' := [some (.ref (n0 + 113)), some (.int (nI a)), some (.int (nI b)), some (.int 2), some (.int (nI (sumTo (mDf1 y a b 2) p + 1))), some (.int (nI p)), some (.int (mSort y a b p)), some (.int 1)]) C (by decide) rfl dX5_differ_129 ?_
                          refine z_iinc (v := nI (p + 1)) (ls' := [some (.ref (n0 + 113)), some (.int (nI a)), some (.int (nI b)), some (.int 2), some (.int (nI (sumTo (mDf1 y a b 2) p + 1))), some (.int (nI (p + 1))), some (.int (mSort y a b p)), some (.int 1)]) C rfl (cv_inc p 1) (by decide) rfl dX5_differ_131 ?_
                          refine z_goto (tgt := 40) C dX5_differ_134 (by decide) ?_
                          exact z_cast (σ1 := (κ, y, o)) (ls' := [some (.ref (n0 + 113)), some (.int (nI a)), some (.int (nI b)), some (.int 2), some (.int (nI (sumTo (mDf1 y a b 2) (p + 1)))), some (.int (nI (p + 1))), none, none]) (st' := []) (ih_40) rfl ⟨rfl, rfl, rfl, rfl, (so_int (by simp [sumTo, mDf1, h_120])), rfl, trivial⟩ rfl
                      · exact absurd h_101 (by decide +kernel)
        · exact absurd h_23 (by decide +kernel)
set_option maxHeartbeats 4000000 in
set_option maxRecDepth 100000 in
theorem c_X5_differ_3 (l : Launch) (D : DD) (n0 : Nat) (κ μ : KH) (o : Int64) (a b : Nat) (ha : a < 16) (hb : b < 16) (h1 : μ 1 a ≠ 0) (h2 : μ 1 b ≠ 0) (y : KH) (hy : y = up μ 0 0 0) : HM l D n0 yX5_differ cX5_differ 8 (some .int) 2 47 [.ref (n0 + 113), .int (nI a), .int (nI b), .int 3] (κ, μ, o) (some (.int (nI (sumTo (mDf1 y a b 3) 40)))) (κ, y, o) := by
  refine HM.of (by decide) (by simp [Value.category]) (by simp) (Or.inr (Or.inl ⟨_, .int, rfl, rfl, rfl⟩)) ?_
  intro pp ee ss mm aa bb me cd Q C K hret
  show ZZ pp l ee (rmk 2 47) ss mm aa bb me cd D n0 127 8 0 0 Q _ 0 [some (.ref (n0 + 113)), some (.int (nI a)), some (.int (nI b)), some (.int 3), none, none, none, none] []
  refine z_aload_n C rfl dX5_differ_0 ?_
  refine z_aload_n C rfl dX5_differ_1 ?_
  refine z_iload_n C rfl dX5_differ_2 ?_
  refine z_callV (As := [.int (nI a)]) (r := (some (.int (b2i (!decide (μ 1 a = 0)))))) (σ1 := (κ, μ, o)) (st := [.ref (n0 + 113)]) (st1 := [.int (b2i (!decide (μ 1 a = 0))), .ref (n0 + 113)]) C K ok_X5_126 (c_X5_isVolume l D n0 κ μ o a (by omega)) enc_M (by decide) rfl rfl ⟨by decide, by decide⟩ ⟨Nat.zero_le _, Nat.zero_le _⟩ (by simp [Value.category]) dX5_differ_3 rfl rfl ?_
  refine z_if_eq (tgt := 26) C dX5_differ_6 (by decide) (fun h_6 => ?_) (fun h_6 => ?_)
  · have g_6 := cv_b0 h_6
    exact absurd g_6 (by simp [h1])
  · have g_6 := cv_b1 h_6
    refine z_aload_n C rfl dX5_differ_9 ?_
    refine z_iload_n C rfl dX5_differ_10 ?_
    refine z_callV (As := [.int (nI b)]) (r := (some (.int (b2i (!decide (μ 1 b = 0)))))) (σ1 := (κ, μ, o)) (st := [.ref (n0 + 113)]) (st1 := [.int (b2i (!decide (μ 1 b = 0))), .ref (n0 + 113)]) C K ok_X5_126 (c_X5_isVolume l D n0 κ μ o b (by omega)) enc_M (by decide) rfl rfl ⟨by decide, by decide⟩ ⟨Nat.zero_le _, Nat.zero_le _⟩ (by simp [Value.category]) dX5_differ_11 rfl rfl ?_
    refine z_if_eq (tgt := 26) C dX5_differ_14 (by decide) (fun h_14 => ?_) (fun h_14 => ?_)
    · have g_14 := cv_b0 h_14
      exact absurd g_14 (by simp [h2])
    · have g_14 := cv_b1 h_14
      refine z_iload_n C rfl dX5_differ_17 ?_
      refine z_if_lt (tgt := 26) C dX5_differ_18 (by decide) (fun h_18 => ?_) (fun h_18 => ?_)
      · exact absurd h_18 (by decide +kernel)
      · skip
        refine z_iload_n C rfl dX5_differ_21 ?_
        refine z_iconst (v := 4) C (by decide +kernel) dX5_differ_22 ?_
        refine z_icmp_le (tgt := 30) C dX5_differ_23 (by decide) (fun h_23 => ?_) (fun h_23 => ?_)
        · skip
          refine z_iconst (v := 0) C (by decide +kernel) dX5_differ_30 ?_
          refine pf_X5_51 (x := 0) C dX5_differ_31 ?_
          rw [← hy]
          refine z_iconst (v := 0) C (by decide +kernel) dX5_differ_34 ?_
          refine z_istore (ls' := [some (.ref (n0 + 113)), some (.int (nI a)), some (.int (nI b)), some (.int 3), some (.int 0), none, none, none]) C (by decide) rfl dX5_differ_35 ?_
          refine z_iconst (v := 0) C (by decide +kernel) dX5_differ_37 ?_
          refine z_istore (ls' := [some (.ref (n0 + 113)), some (.int (nI a)), some (.int (nI b)), some (.int 3), some (.int 0), some (.int 0), none, none]) C (by decide) rfl dX5_differ_38 ?_
          refine z_cast (σ1 := (κ, y, o)) (ls' := [some (.ref (n0 + 113)), some (.int (nI a)), some (.int (nI b)), some (.int 3), some (.int (nI (sumTo (mDf1 y a b 3) 0))), some (.int (nI 0)), none, none]) (st' := []) (z_for (P := fun p => ZZ pp l ee (rmk 2 47) ss mm aa bb me cd D n0 127 8 0 0 Q (κ, y, o) 40 [some (.ref (n0 + 113)), some (.int (nI a)), some (.int (nI b)), some (.int 3), some (.int (nI (sumTo (mDf1 y a b 3) p))), some (.int (nI p)), none, none] []) (40) ?_ ?_ 0 (Nat.zero_le _)) rfl ⟨rfl, rfl, rfl, rfl, (so_int rfl), rfl, trivial⟩ rfl
          · skip
            refine z_iload C rfl dX5_differ_40 ?_
            refine z_bipush (v := 40) C (by decide +kernel) dX5_differ_42 ?_
            refine z_icmp_ge (tgt := 137) C dX5_differ_44 (by decide) (fun h_44 => ?_) (fun h_44 => ?_)
            · have g_44 := cv_le (a := 40) (b := 40) (by omega) (by omega) h_44
              refine z_iload C rfl dX5_differ_137 ?_
              exact z_endI (hret _ _ dX5_differ_139) rfl rfl
            · have g_44 := cv_nle (a := 40) (b := 40) (by omega) (by omega) h_44
              exact absurd g_44 (by omega)
          · intro p hi_40 ih_40
            refine z_iload C rfl dX5_differ_40 ?_
            refine z_bipush (v := 40) C (by decide +kernel) dX5_differ_42 ?_
            refine z_icmp_ge (tgt := 137) C dX5_differ_44 (by decide) (fun h_44 => ?_) (fun h_44 => ?_)
            · have g_44 := cv_le (a := 40) (b := p) (by omega) (by omega) h_44
              exact absurd hi_40 (by omega)
            · have g_44 := cv_nle (a := 40) (b := p) (by omega) (by omega) h_44
              refine z_aload_n C rfl dX5_differ_47 ?_
              refine gf_X5_51 (v := 0) C (by rw [hy]; exact up_self) dX5_differ_48 ?_
              refine z_if_ne (tgt := 137) C dX5_differ_51 (by decide) (fun h_51 => ?_) (fun h_51 => ?_)
              · exact absurd h_51 (by decide +kernel)
              · skip
                refine z_aload_n C rfl dX5_differ_54 ?_
                refine z_iload_n C rfl dX5_differ_55 ?_
                refine z_iload_n C rfl dX5_differ_56 ?_
                refine z_iload C rfl dX5_differ_57 ?_
                refine z_callV (As := [.int (nI a), .int (nI b), .int (nI p)]) (r := (some (.int (mSort y a b p)))) (σ1 := (κ, y, o)) (st := []) (st1 := [.int (mSort y a b p)]) C K ok_X5_176 (c_X5_sortAt l D n0 κ y o a b p (by omega) (by omega) (by omega)) enc_M (by decide) rfl rfl ⟨by decide, by decide⟩ ⟨Nat.zero_le _, Nat.zero_le _⟩ (by simp [Value.category]) dX5_differ_59 rfl rfl ?_
                refine z_istore (ls' := [some (.ref (n0 + 113)), some (.int (nI a)), some (.int (nI b)), some (.int 3), some (.int (nI (sumTo (mDf1 y a b 3) p))), some (.int (nI p)), some (.int (mSort y a b p)), none]) C (by decide) rfl dX5_differ_62 ?_
                refine z_iload C rfl dX5_differ_64 ?_
                refine z_iconst (v := (-1)) C (by decide +kernel) dX5_differ_66 ?_
                refine z_icmp_eq (tgt := 94) C dX5_differ_67 (by decide) (fun h_67 => ?_) (fun h_67 => ?_)
                · skip
                  refine z_iconst (v := 0) C (by decide +kernel) dX5_differ_94 ?_
                  refine z_istore (ls' := [some (.ref (n0 + 113)), some (.int (nI a)), some (.int (nI b)), some (.int 3), some (.int (nI (sumTo (mDf1 y a b 3) p))), some (.int (nI p)), some (.int (mSort y a b p)), some (.int 0)]) C (by decide) rfl dX5_differ_95 ?_
                  refine z_iload C rfl dX5_differ_97 ?_
                  refine z_iload_n C rfl dX5_differ_99 ?_
                  refine z_iconst (v := 4) C (by decide +kernel) dX5_differ_100 ?_
                  refine z_icmp_ne (tgt := 117) C dX5_differ_101 (by decide) (fun h_101 => ?_) (fun h_101 => ?_)
                  · skip
                    refine z_iload C rfl dX5_differ_117 ?_
                    refine z_iload_n C rfl dX5_differ_119 ?_
                    refine z_icmp_ne (tgt := 127) C dX5_differ_120 (by decide) (fun h_120 => ?_) (fun h_120 => ?_)
                    · skip
                      refine z_iconst (v := 0) C (by decide +kernel) dX5_differ_127 ?_
                      refine z_iadd (v := nI (sumTo (mDf1 y a b 3) p + 0)) C (cv_add (sumTo (mDf1 y a b 3) p) 0) dX5_differ_128 ?_
                      refine z_istore (ls' := [some (.ref (n0 + 113)), some (.int (nI a)), some (.int (nI b)), some (.int 3), some (.int (nI (sumTo (mDf1 y a b 3) p + 0))), some (.int (nI p)), some (.int (mSort y a b p)), some (.int 0)]) C (by decide) rfl dX5_differ_129 ?_
                      refine z_iinc (v := nI (p + 1)) (ls' := [some (.ref (n0 + 113)), some (.int (nI a)), some (.int (nI b)), some (.int 3), some (.int (nI (sumTo (mDf1 y a b 3) p + 0))), some (.int (nI (p + 1))), some (.int (mSort y a b p)), some (.int 0)]) C rfl (cv_inc p 1) (by decide) rfl dX5_differ_131 ?_
                      refine z_goto (tgt := 40) C dX5_differ_134 (by decide) ?_
                      exact z_cast (σ1 := (κ, y, o)) (ls' := [some (.ref (n0 + 113)), some (.int (nI a)), some (.int (nI b)), some (.int 3), some (.int (nI (sumTo (mDf1 y a b 3) (p + 1)))), some (.int (nI (p + 1))), none, none]) (st' := []) (ih_40) rfl ⟨rfl, rfl, rfl, rfl, (so_int (by simp [sumTo, mDf1, h_120])), rfl, trivial⟩ rfl
                    · skip
                      refine z_iconst (v := 1) C (by decide +kernel) dX5_differ_123 ?_
                      refine z_goto (tgt := 128) C dX5_differ_124 (by decide) ?_
                      refine z_iadd (v := nI (sumTo (mDf1 y a b 3) p + 1)) C (cv_add (sumTo (mDf1 y a b 3) p) 1) dX5_differ_128 ?_
                      refine z_istore (ls' := [some (.ref (n0 + 113)), some (.int (nI a)), some (.int (nI b)), some (.int 3), some (.int (nI (sumTo (mDf1 y a b 3) p + 1))), some (.int (nI p)), some (.int (mSort y a b p)), some (.int 0)]) C (by decide) rfl dX5_differ_129 ?_
                      refine z_iinc (v := nI (p + 1)) (ls' := [some (.ref (n0 + 113)), some (.int (nI a)), some (.int (nI b)), some (.int 3), some (.int (nI (sumTo (mDf1 y a b 3) p + 1))), some (.int (nI (p + 1))), some (.int (mSort y a b p)), some (.int 0)]) C rfl (cv_inc p 1) (by decide) rfl dX5_differ_131 ?_
                      refine z_goto (tgt := 40) C dX5_differ_134 (by decide) ?_
                      exact z_cast (σ1 := (κ, y, o)) (ls' := [some (.ref (n0 + 113)), some (.int (nI a)), some (.int (nI b)), some (.int 3), some (.int (nI (sumTo (mDf1 y a b 3) (p + 1)))), some (.int (nI (p + 1))), none, none]) (st' := []) (ih_40) rfl ⟨rfl, rfl, rfl, rfl, (so_int (by simp [sumTo, mDf1, h_120])), rfl, trivial⟩ rfl
                  · exact absurd h_101 (by decide +kernel)
                · skip
                  refine z_iload C rfl dX5_differ_70 ?_
                  refine z_if_eq (tgt := 90) C dX5_differ_72 (by decide) (fun h_72 => ?_) (fun h_72 => ?_)
                  · have g_72 := cv_eq (a := p) (b := 0) (by omega) (by omega) h_72
                    refine z_iconst (v := 1) C (by decide +kernel) dX5_differ_90 ?_
                    refine z_goto (tgt := 95) C dX5_differ_91 (by decide) ?_
                    refine z_istore (ls' := [some (.ref (n0 + 113)), some (.int (nI a)), some (.int (nI b)), some (.int 3), some (.int (nI (sumTo (mDf1 y a b 3) p))), some (.int (nI p)), some (.int (mSort y a b p)), some (.int 1)]) C (by decide) rfl dX5_differ_95 ?_
                    refine z_iload C rfl dX5_differ_97 ?_
                    refine z_iload_n C rfl dX5_differ_99 ?_
                    refine z_iconst (v := 4) C (by decide +kernel) dX5_differ_100 ?_
                    refine z_icmp_ne (tgt := 117) C dX5_differ_101 (by decide) (fun h_101 => ?_) (fun h_101 => ?_)
                    · skip
                      refine z_iload C rfl dX5_differ_117 ?_
                      refine z_iload_n C rfl dX5_differ_119 ?_
                      refine z_icmp_ne (tgt := 127) C dX5_differ_120 (by decide) (fun h_120 => ?_) (fun h_120 => ?_)
                      · skip
                        refine z_iconst (v := 0) C (by decide +kernel) dX5_differ_127 ?_
                        refine z_iadd (v := nI (sumTo (mDf1 y a b 3) p + 0)) C (cv_add (sumTo (mDf1 y a b 3) p) 0) dX5_differ_128 ?_
                        refine z_istore (ls' := [some (.ref (n0 + 113)), some (.int (nI a)), some (.int (nI b)), some (.int 3), some (.int (nI (sumTo (mDf1 y a b 3) p + 0))), some (.int (nI p)), some (.int (mSort y a b p)), some (.int 1)]) C (by decide) rfl dX5_differ_129 ?_
                        refine z_iinc (v := nI (p + 1)) (ls' := [some (.ref (n0 + 113)), some (.int (nI a)), some (.int (nI b)), some (.int 3), some (.int (nI (sumTo (mDf1 y a b 3) p + 0))), some (.int (nI (p + 1))), some (.int (mSort y a b p)), some (.int 1)]) C rfl (cv_inc p 1) (by decide) rfl dX5_differ_131 ?_
                        refine z_goto (tgt := 40) C dX5_differ_134 (by decide) ?_
                        exact z_cast (σ1 := (κ, y, o)) (ls' := [some (.ref (n0 + 113)), some (.int (nI a)), some (.int (nI b)), some (.int 3), some (.int (nI (sumTo (mDf1 y a b 3) (p + 1)))), some (.int (nI (p + 1))), none, none]) (st' := []) (ih_40) rfl ⟨rfl, rfl, rfl, rfl, (so_int (by simp [sumTo, mDf1, h_120])), rfl, trivial⟩ rfl
                      · skip
                        refine z_iconst (v := 1) C (by decide +kernel) dX5_differ_123 ?_
                        refine z_goto (tgt := 128) C dX5_differ_124 (by decide) ?_
                        refine z_iadd (v := nI (sumTo (mDf1 y a b 3) p + 1)) C (cv_add (sumTo (mDf1 y a b 3) p) 1) dX5_differ_128 ?_
                        refine z_istore (ls' := [some (.ref (n0 + 113)), some (.int (nI a)), some (.int (nI b)), some (.int 3), some (.int (nI (sumTo (mDf1 y a b 3) p + 1))), some (.int (nI p)), some (.int (mSort y a b p)), some (.int 1)]) C (by decide) rfl dX5_differ_129 ?_
                        refine z_iinc (v := nI (p + 1)) (ls' := [some (.ref (n0 + 113)), some (.int (nI a)), some (.int (nI b)), some (.int 3), some (.int (nI (sumTo (mDf1 y a b 3) p + 1))), some (.int (nI (p + 1))), some (.int (mSort y a b p)), some (.int 1)]) C rfl (cv_inc p 1) (by decide) rfl dX5_differ_131 ?_
                        refine z_goto (tgt := 40) C dX5_differ_134 (by decide) ?_
                        exact z_cast (σ1 := (κ, y, o)) (ls' := [some (.ref (n0 + 113)), some (.int (nI a)), some (.int (nI b)), some (.int 3), some (.int (nI (sumTo (mDf1 y a b 3) (p + 1)))), some (.int (nI (p + 1))), none, none]) (st' := []) (ih_40) rfl ⟨rfl, rfl, rfl, rfl, (so_int (by simp [sumTo, mDf1, h_120])), rfl, trivial⟩ rfl
                    · exact absurd h_101 (by decide +kernel)
                  · have g_72 := cv_ne (a := p) (b := 0) h_72
                    refine z_aload_n C rfl dX5_differ_75 ?_
                    refine z_iload_n C rfl dX5_differ_76 ?_
                    refine z_iload_n C rfl dX5_differ_77 ?_
                    refine z_iload C rfl dX5_differ_78 ?_
                    refine z_iconst (v := 1) C (by decide +kernel) dX5_differ_80 ?_
                    refine z_isub (v := nI (p - 1)) C (cv_sub (b := 1) (by omega)) dX5_differ_81 ?_
                    refine z_callV (As := [.int (nI a), .int (nI b), .int (nI (p - 1))]) (r := (some (.int (mSort y a b (p - 1))))) (σ1 := (κ, y, o)) (st := []) (st1 := [.int (mSort y a b (p - 1))]) C K ok_X5_176 (c_X5_sortAt l D n0 κ y o a b (p - 1) (by omega) (by omega) (by omega)) enc_M (by decide) rfl rfl ⟨by decide, by decide⟩ ⟨Nat.zero_le _, Nat.zero_le _⟩ (by simp [Value.category]) dX5_differ_82 rfl rfl ?_
                    refine z_iload C rfl dX5_differ_85 ?_
                    refine z_icmp_eq (tgt := 94) C dX5_differ_87 (by decide) (fun h_87 => ?_) (fun h_87 => ?_)
                    · skip
                      refine z_iconst (v := 0) C (by decide +kernel) dX5_differ_94 ?_
                      refine z_istore (ls' := [some (.ref (n0 + 113)), some (.int (nI a)), some (.int (nI b)), some (.int 3), some (.int (nI (sumTo (mDf1 y a b 3) p))), some (.int (nI p)), some (.int (mSort y a b p)), some (.int 0)]) C (by decide) rfl dX5_differ_95 ?_
                      refine z_iload C rfl dX5_differ_97 ?_
                      refine z_iload_n C rfl dX5_differ_99 ?_
                      refine z_iconst (v := 4) C (by decide +kernel) dX5_differ_100 ?_
                      refine z_icmp_ne (tgt := 117) C dX5_differ_101 (by decide) (fun h_101 => ?_) (fun h_101 => ?_)
                      · skip
                        refine z_iload C rfl dX5_differ_117 ?_
                        refine z_iload_n C rfl dX5_differ_119 ?_
                        refine z_icmp_ne (tgt := 127) C dX5_differ_120 (by decide) (fun h_120 => ?_) (fun h_120 => ?_)
                        · skip
                          refine z_iconst (v := 0) C (by decide +kernel) dX5_differ_127 ?_
                          refine z_iadd (v := nI (sumTo (mDf1 y a b 3) p + 0)) C (cv_add (sumTo (mDf1 y a b 3) p) 0) dX5_differ_128 ?_
                          refine z_istore (ls' := [some (.ref (n0 + 113)), some (.int (nI a)), some (.int (nI b)), some (.int 3), some (.int (nI (sumTo (mDf1 y a b 3) p + 0))), some (.int (nI p)), some (.int (mSort y a b p)), some (.int 0)]) C (by decide) rfl dX5_differ_129 ?_
                          refine z_iinc (v := nI (p + 1)) (ls' := [some (.ref (n0 + 113)), some (.int (nI a)), some (.int (nI b)), some (.int 3), some (.int (nI (sumTo (mDf1 y a b 3) p + 0))), some (.int (nI (p + 1))), some (.int (mSort y a b p)), some (.int 0)]) C rfl (cv_inc p 1) (by decide) rfl dX5_differ_131 ?_
                          refine z_goto (tgt := 40) C dX5_differ_134 (by decide) ?_
                          exact z_cast (σ1 := (κ, y, o)) (ls' := [some (.ref (n0 + 113)), some (.int (nI a)), some (.int (nI b)), some (.int 3), some (.int (nI (sumTo (mDf1 y a b 3) (p + 1)))), some (.int (nI (p + 1))), none, none]) (st' := []) (ih_40) rfl ⟨rfl, rfl, rfl, rfl, (so_int (by simp [sumTo, mDf1, h_120])), rfl, trivial⟩ rfl
                        · skip
                          refine z_iconst (v := 1) C (by decide +kernel) dX5_differ_123 ?_
                          refine z_goto (tgt := 128) C dX5_differ_124 (by decide) ?_
                          refine z_iadd (v := nI (sumTo (mDf1 y a b 3) p + 1)) C (cv_add (sumTo (mDf1 y a b 3) p) 1) dX5_differ_128 ?_
                          refine z_istore (ls' := [some (.ref (n0 + 113)), some (.int (nI a)), some (.int (nI b)), some (.int 3), some (.int (nI (sumTo (mDf1 y a b 3) p + 1))), some (.int (nI p)), some (.int (mSort y a b p)), some (.int 0)]) C (by decide) rfl dX5_differ_129 ?_
                          refine z_iinc (v := nI (p + 1)) (ls' := [some (.ref (n0 + 113)), some (.int (nI a)), some (.int (nI b)), some (.int 3), some (.int (nI (sumTo (mDf1 y a b 3) p + 1))), some (.int (nI (p + 1))), some (.int (mSort y a b p)), some (.int 0)]) C rfl (cv_inc p 1) (by decide) rfl dX5_differ_131 ?_
                          refine z_goto (tgt := 40) C dX5_differ_134 (by decide) ?_
                          exact z_cast (σ1 := (κ, y, o)) (ls' := [some (.ref (n0 + 113)), some (.int (nI a)), some (.int (nI b)), some (.int 3), some (.int (nI (sumTo (mDf1 y a b 3) (p + 1)))), some (.int (nI (p + 1))), none, none]) (st' := []) (ih_40) rfl ⟨rfl, rfl, rfl, rfl, (so_int (by simp [sumTo, mDf1, h_120])), rfl, trivial⟩ rfl
                      · exact absurd h_101 (by decide +kernel)
                    · skip
                      refine z_iconst (v := 1) C (by decide +kernel) dX5_differ_90 ?_
                      refine z_goto (tgt := 95) C dX5_differ_91 (by decide) ?_
                      refine z_istore (ls' := [some (.ref (n0 + 113)), some (.int (nI a)), some (.int (nI b)), some (.int 3), some (.int (nI (sumTo (mDf1 y a b 3) p))), some (.int (nI p)), some (.int (mSort y a b p)), some (.int 1)]) C (by decide) rfl dX5_differ_95 ?_
                      refine z_iload C rfl dX5_differ_97 ?_
                      refine z_iload_n C rfl dX5_differ_99 ?_
                      refine z_iconst (v := 4) C (by decide +kernel) dX5_differ_100 ?_
                      refine z_icmp_ne (tgt := 117) C dX5_differ_101 (by decide) (fun h_101 => ?_) (fun h_101 => ?_)
                      · skip
                        refine z_iload C rfl dX5_differ_117 ?_
                        refine z_iload_n C rfl dX5_differ_119 ?_
                        refine z_icmp_ne (tgt := 127) C dX5_differ_120 (by decide) (fun h_120 => ?_) (fun h_120 => ?_)
                        · skip
                          refine z_iconst (v := 0) C (by decide +kernel) dX5_differ_127 ?_
                          refine z_iadd (v := nI (sumTo (mDf1 y a b 3) p + 0)) C (cv_add (sumTo (mDf1 y a b 3) p) 0) dX5_differ_128 ?_
                          refine z_istore (ls' := [some (.ref (n0 + 113)), some (.int (nI a)), some (.int (nI b)), some (.int 3), some (.int (nI (sumTo (mDf1 y a b 3) p + 0))), some (.int (nI p)), some (.int (mSort y a b p)), some (.int 1)]) C (by decide) rfl dX5_differ_129 ?_
                          refine z_iinc (v := nI (p + 1)) (ls' := [some (.ref (n0 + 113)), some (.int (nI a)), some (.int (nI b)), some (.int 3), some (.int (nI (sumTo (mDf1 y a b 3) p + 0))), some (.int (nI (p + 1))), some (.int (mSort y a b p)), some (.int 1)]) C rfl (cv_inc p 1) (by decide) rfl dX5_differ_131 ?_
                          refine z_goto (tgt := 40) C dX5_differ_134 (by decide) ?_
                          exact z_cast (σ1 := (κ, y, o)) (ls' := [some (.ref (n0 + 113)), some (.int (nI a)), some (.int (nI b)), some (.int 3), some (.int (nI (sumTo (mDf1 y a b 3) (p + 1)))), some (.int (nI (p + 1))), none, none]) (st' := []) (ih_40) rfl ⟨rfl, rfl, rfl, rfl, (so_int (by simp [sumTo, mDf1, h_120])), rfl, trivial⟩ rfl
                        · skip
                          refine z_iconst (v := 1) C (by decide +kernel) dX5_differ_123 ?_
                          refine z_goto (tgt := 128) C dX5_differ_124 (by decide) ?_
                          refine z_iadd (v := nI (sumTo (mDf1 y a b 3) p + 1)) C (cv_add (sumTo (mDf1 y a b 3) p) 1) dX5_differ_128 ?_
                          refine z_istore (ls' := [some (.ref (n0 + 113)), some (.int (nI a)), some (.int (nI b)), some (.int 3), some (.int (nI (sumTo (mDf1 y a b 3) p + 1))), some (.int (nI p)), some (.int (mSort y a b p)), some (.int 1)]) C (by decide) rfl dX5_differ_129 ?_
                          refine z_iinc (v := nI (p + 1)) (ls' := [some (.ref (n0 + 113)), some (.int (nI a)), some (.int (nI b)), some (.int 3), some (.int (nI (sumTo (mDf1 y a b 3) p + 1))), some (.int (nI (p + 1))), some (.int (mSort y a b p)), some (.int 1)]) C rfl (cv_inc p 1) (by decide) rfl dX5_differ_131 ?_
                          refine z_goto (tgt := 40) C dX5_differ_134 (by decide) ?_
                          exact z_cast (σ1 := (κ, y, o)) (ls' := [some (.ref (n0 + 113)), some (.int (nI a)), some (.int (nI b)), some (.int 3), some (.int (nI (sumTo (mDf1 y a b 3) (p + 1)))), some (.int (nI (p + 1))), none, none]) (st' := []) (ih_40) rfl ⟨rfl, rfl, rfl, rfl, (so_int (by simp [sumTo, mDf1, h_120])), rfl, trivial⟩ rfl
                      · exact absurd h_101 (by decide +kernel)
        · exact absurd h_23 (by decide +kernel)
set_option maxHeartbeats 4000000 in
set_option maxRecDepth 100000 in
theorem c_X5_differ_4 (l : Launch) (D : DD) (n0 : Nat) (κ μ : KH) (o : Int64) (a b : Nat) (ha : a < 16) (hb : b < 16) (h1 : μ 1 a ≠ 0) (h2 : μ 1 b ≠ 0) (y : KH) (hy : y = up μ 0 0 0) : HM l D n0 yX5_differ cX5_differ 8 (some .int) 2 47 [.ref (n0 + 113), .int (nI a), .int (nI b), .int 4] (κ, μ, o) (some (.int (nI (sumTo (mRn1 y a b) 40)))) (κ, y, o) := by
  refine HM.of (by decide) (by simp [Value.category]) (by simp) (Or.inr (Or.inl ⟨_, .int, rfl, rfl, rfl⟩)) ?_
  intro pp ee ss mm aa bb me cd Q C K hret
  show ZZ pp l ee (rmk 2 47) ss mm aa bb me cd D n0 127 8 0 0 Q _ 0 [some (.ref (n0 + 113)), some (.int (nI a)), some (.int (nI b)), some (.int 4), none, none, none, none] []
  refine z_aload_n C rfl dX5_differ_0 ?_
  refine z_aload_n C rfl dX5_differ_1 ?_
  refine z_iload_n C rfl dX5_differ_2 ?_
  refine z_callV (As := [.int (nI a)]) (r := (some (.int (b2i (!decide (μ 1 a = 0)))))) (σ1 := (κ, μ, o)) (st := [.ref (n0 + 113)]) (st1 := [.int (b2i (!decide (μ 1 a = 0))), .ref (n0 + 113)]) C K ok_X5_126 (c_X5_isVolume l D n0 κ μ o a (by omega)) enc_M (by decide) rfl rfl ⟨by decide, by decide⟩ ⟨Nat.zero_le _, Nat.zero_le _⟩ (by simp [Value.category]) dX5_differ_3 rfl rfl ?_
  refine z_if_eq (tgt := 26) C dX5_differ_6 (by decide) (fun h_6 => ?_) (fun h_6 => ?_)
  · have g_6 := cv_b0 h_6
    exact absurd g_6 (by simp [h1])
  · have g_6 := cv_b1 h_6
    refine z_aload_n C rfl dX5_differ_9 ?_
    refine z_iload_n C rfl dX5_differ_10 ?_
    refine z_callV (As := [.int (nI b)]) (r := (some (.int (b2i (!decide (μ 1 b = 0)))))) (σ1 := (κ, μ, o)) (st := [.ref (n0 + 113)]) (st1 := [.int (b2i (!decide (μ 1 b = 0))), .ref (n0 + 113)]) C K ok_X5_126 (c_X5_isVolume l D n0 κ μ o b (by omega)) enc_M (by decide) rfl rfl ⟨by decide, by decide⟩ ⟨Nat.zero_le _, Nat.zero_le _⟩ (by simp [Value.category]) dX5_differ_11 rfl rfl ?_
    refine z_if_eq (tgt := 26) C dX5_differ_14 (by decide) (fun h_14 => ?_) (fun h_14 => ?_)
    · have g_14 := cv_b0 h_14
      exact absurd g_14 (by simp [h2])
    · have g_14 := cv_b1 h_14
      refine z_iload_n C rfl dX5_differ_17 ?_
      refine z_if_lt (tgt := 26) C dX5_differ_18 (by decide) (fun h_18 => ?_) (fun h_18 => ?_)
      · exact absurd h_18 (by decide +kernel)
      · skip
        refine z_iload_n C rfl dX5_differ_21 ?_
        refine z_iconst (v := 4) C (by decide +kernel) dX5_differ_22 ?_
        refine z_icmp_le (tgt := 30) C dX5_differ_23 (by decide) (fun h_23 => ?_) (fun h_23 => ?_)
        · skip
          refine z_iconst (v := 0) C (by decide +kernel) dX5_differ_30 ?_
          refine pf_X5_51 (x := 0) C dX5_differ_31 ?_
          rw [← hy]
          refine z_iconst (v := 0) C (by decide +kernel) dX5_differ_34 ?_
          refine z_istore (ls' := [some (.ref (n0 + 113)), some (.int (nI a)), some (.int (nI b)), some (.int 4), some (.int 0), none, none, none]) C (by decide) rfl dX5_differ_35 ?_
          refine z_iconst (v := 0) C (by decide +kernel) dX5_differ_37 ?_
          refine z_istore (ls' := [some (.ref (n0 + 113)), some (.int (nI a)), some (.int (nI b)), some (.int 4), some (.int 0), some (.int 0), none, none]) C (by decide) rfl dX5_differ_38 ?_
          refine z_cast (σ1 := (κ, y, o)) (ls' := [some (.ref (n0 + 113)), some (.int (nI a)), some (.int (nI b)), some (.int 4), some (.int (nI (sumTo (mRn1 y a b) 0))), some (.int (nI 0)), none, none]) (st' := []) (z_for (P := fun p => ZZ pp l ee (rmk 2 47) ss mm aa bb me cd D n0 127 8 0 0 Q (κ, y, o) 40 [some (.ref (n0 + 113)), some (.int (nI a)), some (.int (nI b)), some (.int 4), some (.int (nI (sumTo (mRn1 y a b) p))), some (.int (nI p)), none, none] []) (40) ?_ ?_ 0 (Nat.zero_le _)) rfl ⟨rfl, rfl, rfl, rfl, (so_int rfl), rfl, trivial⟩ rfl
          · skip
            refine z_iload C rfl dX5_differ_40 ?_
            refine z_bipush (v := 40) C (by decide +kernel) dX5_differ_42 ?_
            refine z_icmp_ge (tgt := 137) C dX5_differ_44 (by decide) (fun h_44 => ?_) (fun h_44 => ?_)
            · have g_44 := cv_le (a := 40) (b := 40) (by omega) (by omega) h_44
              refine z_iload C rfl dX5_differ_137 ?_
              exact z_endI (hret _ _ dX5_differ_139) rfl rfl
            · have g_44 := cv_nle (a := 40) (b := 40) (by omega) (by omega) h_44
              exact absurd g_44 (by omega)
          · intro p hi_40 ih_40
            refine z_iload C rfl dX5_differ_40 ?_
            refine z_bipush (v := 40) C (by decide +kernel) dX5_differ_42 ?_
            refine z_icmp_ge (tgt := 137) C dX5_differ_44 (by decide) (fun h_44 => ?_) (fun h_44 => ?_)
            · have g_44 := cv_le (a := 40) (b := p) (by omega) (by omega) h_44
              exact absurd hi_40 (by omega)
            · have g_44 := cv_nle (a := 40) (b := p) (by omega) (by omega) h_44
              refine z_aload_n C rfl dX5_differ_47 ?_
              refine gf_X5_51 (v := 0) C (by rw [hy]; exact up_self) dX5_differ_48 ?_
              refine z_if_ne (tgt := 137) C dX5_differ_51 (by decide) (fun h_51 => ?_) (fun h_51 => ?_)
              · exact absurd h_51 (by decide +kernel)
              · skip
                refine z_aload_n C rfl dX5_differ_54 ?_
                refine z_iload_n C rfl dX5_differ_55 ?_
                refine z_iload_n C rfl dX5_differ_56 ?_
                refine z_iload C rfl dX5_differ_57 ?_
                refine z_callV (As := [.int (nI a), .int (nI b), .int (nI p)]) (r := (some (.int (mSort y a b p)))) (σ1 := (κ, y, o)) (st := []) (st1 := [.int (mSort y a b p)]) C K ok_X5_176 (c_X5_sortAt l D n0 κ y o a b p (by omega) (by omega) (by omega)) enc_M (by decide) rfl rfl ⟨by decide, by decide⟩ ⟨Nat.zero_le _, Nat.zero_le _⟩ (by simp [Value.category]) dX5_differ_59 rfl rfl ?_
                refine z_istore (ls' := [some (.ref (n0 + 113)), some (.int (nI a)), some (.int (nI b)), some (.int 4), some (.int (nI (sumTo (mRn1 y a b) p))), some (.int (nI p)), some (.int (mSort y a b p)), none]) C (by decide) rfl dX5_differ_62 ?_
                refine z_iload C rfl dX5_differ_64 ?_
                refine z_iconst (v := (-1)) C (by decide +kernel) dX5_differ_66 ?_
                refine z_icmp_eq (tgt := 94) C dX5_differ_67 (by decide) (fun h_67 => ?_) (fun h_67 => ?_)
                · skip
                  refine z_iconst (v := 0) C (by decide +kernel) dX5_differ_94 ?_
                  refine z_istore (ls' := [some (.ref (n0 + 113)), some (.int (nI a)), some (.int (nI b)), some (.int 4), some (.int (nI (sumTo (mRn1 y a b) p))), some (.int (nI p)), some (.int (mSort y a b p)), some (.int 0)]) C (by decide) rfl dX5_differ_95 ?_
                  refine z_iload C rfl dX5_differ_97 ?_
                  refine z_iload_n C rfl dX5_differ_99 ?_
                  refine z_iconst (v := 4) C (by decide +kernel) dX5_differ_100 ?_
                  refine z_icmp_ne (tgt := 117) C dX5_differ_101 (by decide) (fun h_101 => ?_) (fun h_101 => ?_)
                  · exact absurd h_101 (by decide +kernel)
                  · skip
                    refine z_iload C rfl dX5_differ_104 ?_
                    refine z_if_eq (tgt := 113) C dX5_differ_106 (by decide) (fun h_106 => ?_) (fun h_106 => ?_)
                    · skip
                      refine z_iconst (v := 0) C (by decide +kernel) dX5_differ_113 ?_
                      refine z_goto (tgt := 128) C dX5_differ_114 (by decide) ?_
                      refine z_iadd (v := nI (sumTo (mRn1 y a b) p + 0)) C (cv_add (sumTo (mRn1 y a b) p) 0) dX5_differ_128 ?_
                      refine z_istore (ls' := [some (.ref (n0 + 113)), some (.int (nI a)), some (.int (nI b)), some (.int 4), some (.int (nI (sumTo (mRn1 y a b) p + 0))), some (.int (nI p)), some (.int (mSort y a b p)), some (.int 0)]) C (by decide) rfl dX5_differ_129 ?_
                      refine z_iinc (v := nI (p + 1)) (ls' := [some (.ref (n0 + 113)), some (.int (nI a)), some (.int (nI b)), some (.int 4), some (.int (nI (sumTo (mRn1 y a b) p + 0))), some (.int (nI (p + 1))), some (.int (mSort y a b p)), some (.int 0)]) C rfl (cv_inc p 1) (by decide) rfl dX5_differ_131 ?_
                      refine z_goto (tgt := 40) C dX5_differ_134 (by decide) ?_
                      exact z_cast (σ1 := (κ, y, o)) (ls' := [some (.ref (n0 + 113)), some (.int (nI a)), some (.int (nI b)), some (.int 4), some (.int (nI (sumTo (mRn1 y a b) (p + 1)))), some (.int (nI (p + 1))), none, none]) (st' := []) (ih_40) rfl ⟨rfl, rfl, rfl, rfl, (so_int (by simp [sumTo, mRn1, h_67])), rfl, trivial⟩ rfl
                    · exact absurd h_106 (by decide +kernel)
                · skip
                  refine z_iload C rfl dX5_differ_70 ?_
                  refine z_if_eq (tgt := 90) C dX5_differ_72 (by decide) (fun h_72 => ?_) (fun h_72 => ?_)
                  · have g_72 := cv_eq (a := p) (b := 0) (by omega) (by omega) h_72
                    refine z_iconst (v := 1) C (by decide +kernel) dX5_differ_90 ?_
                    refine z_goto (tgt := 95) C dX5_differ_91 (by decide) ?_
                    refine z_istore (ls' := [some (.ref (n0 + 113)), some (.int (nI a)), some (.int (nI b)), some (.int 4), some (.int (nI (sumTo (mRn1 y a b) p))), some (.int (nI p)), some (.int (mSort y a b p)), some (.int 1)]) C (by decide) rfl dX5_differ_95 ?_
                    refine z_iload C rfl dX5_differ_97 ?_
                    refine z_iload_n C rfl dX5_differ_99 ?_
                    refine z_iconst (v := 4) C (by decide +kernel) dX5_differ_100 ?_
                    refine z_icmp_ne (tgt := 117) C dX5_differ_101 (by decide) (fun h_101 => ?_) (fun h_101 => ?_)
                    · exact absurd h_101 (by decide +kernel)
                    · skip
                      refine z_iload C rfl dX5_differ_104 ?_
                      refine z_if_eq (tgt := 113) C dX5_differ_106 (by decide) (fun h_106 => ?_) (fun h_106 => ?_)
                      · exact absurd h_106 (by decide +kernel)
                      · skip
                        refine z_iconst (v := 1) C (by decide +kernel) dX5_differ_109 ?_
                        refine z_goto (tgt := 128) C dX5_differ_110 (by decide) ?_
                        refine z_iadd (v := nI (sumTo (mRn1 y a b) p + 1)) C (cv_add (sumTo (mRn1 y a b) p) 1) dX5_differ_128 ?_
                        refine z_istore (ls' := [some (.ref (n0 + 113)), some (.int (nI a)), some (.int (nI b)), some (.int 4), some (.int (nI (sumTo (mRn1 y a b) p + 1))), some (.int (nI p)), some (.int (mSort y a b p)), some (.int 1)]) C (by decide) rfl dX5_differ_129 ?_
                        refine z_iinc (v := nI (p + 1)) (ls' := [some (.ref (n0 + 113)), some (.int (nI a)), some (.int (nI b)), some (.int 4), some (.int (nI (sumTo (mRn1 y a b) p + 1))), some (.int (nI (p + 1))), some (.int (mSort y a b p)), some (.int 1)]) C rfl (cv_inc p 1) (by decide) rfl dX5_differ_131 ?_
                        refine z_goto (tgt := 40) C dX5_differ_134 (by decide) ?_
                        exact z_cast (σ1 := (κ, y, o)) (ls' := [some (.ref (n0 + 113)), some (.int (nI a)), some (.int (nI b)), some (.int 4), some (.int (nI (sumTo (mRn1 y a b) (p + 1)))), some (.int (nI (p + 1))), none, none]) (st' := []) (ih_40) rfl ⟨rfl, rfl, rfl, rfl, (so_int (by subst g_72; simp [sumTo, mRn1, h_67])), rfl, trivial⟩ rfl
                  · have g_72 := cv_ne (a := p) (b := 0) h_72
                    refine z_aload_n C rfl dX5_differ_75 ?_
                    refine z_iload_n C rfl dX5_differ_76 ?_
                    refine z_iload_n C rfl dX5_differ_77 ?_
                    refine z_iload C rfl dX5_differ_78 ?_
                    refine z_iconst (v := 1) C (by decide +kernel) dX5_differ_80 ?_
                    refine z_isub (v := nI (p - 1)) C (cv_sub (b := 1) (by omega)) dX5_differ_81 ?_
                    refine z_callV (As := [.int (nI a), .int (nI b), .int (nI (p - 1))]) (r := (some (.int (mSort y a b (p - 1))))) (σ1 := (κ, y, o)) (st := []) (st1 := [.int (mSort y a b (p - 1))]) C K ok_X5_176 (c_X5_sortAt l D n0 κ y o a b (p - 1) (by omega) (by omega) (by omega)) enc_M (by decide) rfl rfl ⟨by decide, by decide⟩ ⟨Nat.zero_le _, Nat.zero_le _⟩ (by simp [Value.category]) dX5_differ_82 rfl rfl ?_
                    refine z_iload C rfl dX5_differ_85 ?_
                    refine z_icmp_eq (tgt := 94) C dX5_differ_87 (by decide) (fun h_87 => ?_) (fun h_87 => ?_)
                    · skip
                      refine z_iconst (v := 0) C (by decide +kernel) dX5_differ_94 ?_
                      refine z_istore (ls' := [some (.ref (n0 + 113)), some (.int (nI a)), some (.int (nI b)), some (.int 4), some (.int (nI (sumTo (mRn1 y a b) p))), some (.int (nI p)), some (.int (mSort y a b p)), some (.int 0)]) C (by decide) rfl dX5_differ_95 ?_
                      refine z_iload C rfl dX5_differ_97 ?_
                      refine z_iload_n C rfl dX5_differ_99 ?_
                      refine z_iconst (v := 4) C (by decide +kernel) dX5_differ_100 ?_
                      refine z_icmp_ne (tgt := 117) C dX5_differ_101 (by decide) (fun h_101 => ?_) (fun h_101 => ?_)
                      · exact absurd h_101 (by decide +kernel)
                      · skip
                        refine z_iload C rfl dX5_differ_104 ?_
                        refine z_if_eq (tgt := 113) C dX5_differ_106 (by decide) (fun h_106 => ?_) (fun h_106 => ?_)
                        · skip
                          refine z_iconst (v := 0) C (by decide +kernel) dX5_differ_113 ?_
                          refine z_goto (tgt := 128) C dX5_differ_114 (by decide) ?_
                          refine z_iadd (v := nI (sumTo (mRn1 y a b) p + 0)) C (cv_add (sumTo (mRn1 y a b) p) 0) dX5_differ_128 ?_
                          refine z_istore (ls' := [some (.ref (n0 + 113)), some (.int (nI a)), some (.int (nI b)), some (.int 4), some (.int (nI (sumTo (mRn1 y a b) p + 0))), some (.int (nI p)), some (.int (mSort y a b p)), some (.int 0)]) C (by decide) rfl dX5_differ_129 ?_
                          refine z_iinc (v := nI (p + 1)) (ls' := [some (.ref (n0 + 113)), some (.int (nI a)), some (.int (nI b)), some (.int 4), some (.int (nI (sumTo (mRn1 y a b) p + 0))), some (.int (nI (p + 1))), some (.int (mSort y a b p)), some (.int 0)]) C rfl (cv_inc p 1) (by decide) rfl dX5_differ_131 ?_
                          refine z_goto (tgt := 40) C dX5_differ_134 (by decide) ?_
                          exact z_cast (σ1 := (κ, y, o)) (ls' := [some (.ref (n0 + 113)), some (.int (nI a)), some (.int (nI b)), some (.int 4), some (.int (nI (sumTo (mRn1 y a b) (p + 1)))), some (.int (nI (p + 1))), none, none]) (st' := []) (ih_40) rfl ⟨rfl, rfl, rfl, rfl, (so_int (by simp [sumTo, mRn1, h_67, g_72, h_87])), rfl, trivial⟩ rfl
                        · exact absurd h_106 (by decide +kernel)
                    · skip
                      refine z_iconst (v := 1) C (by decide +kernel) dX5_differ_90 ?_
                      refine z_goto (tgt := 95) C dX5_differ_91 (by decide) ?_
                      refine z_istore (ls' := [some (.ref (n0 + 113)), some (.int (nI a)), some (.int (nI b)), some (.int 4), some (.int (nI (sumTo (mRn1 y a b) p))), some (.int (nI p)), some (.int (mSort y a b p)), some (.int 1)]) C (by decide) rfl dX5_differ_95 ?_
                      refine z_iload C rfl dX5_differ_97 ?_
                      refine z_iload_n C rfl dX5_differ_99 ?_
                      refine z_iconst (v := 4) C (by decide +kernel) dX5_differ_100 ?_
                      refine z_icmp_ne (tgt := 117) C dX5_differ_101 (by decide) (fun h_101 => ?_) (fun h_101 => ?_)
                      · exact absurd h_101 (by decide +kernel)
                      · skip
                        refine z_iload C rfl dX5_differ_104 ?_
                        refine z_if_eq (tgt := 113) C dX5_differ_106 (by decide) (fun h_106 => ?_) (fun h_106 => ?_)
                        · exact absurd h_106 (by decide +kernel)
                        · skip
                          refine z_iconst (v := 1) C (by decide +kernel) dX5_differ_109 ?_
                          refine z_goto (tgt := 128) C dX5_differ_110 (by decide) ?_
                          refine z_iadd (v := nI (sumTo (mRn1 y a b) p + 1)) C (cv_add (sumTo (mRn1 y a b) p) 1) dX5_differ_128 ?_
                          refine z_istore (ls' := [some (.ref (n0 + 113)), some (.int (nI a)), some (.int (nI b)), some (.int 4), some (.int (nI (sumTo (mRn1 y a b) p + 1))), some (.int (nI p)), some (.int (mSort y a b p)), some (.int 1)]) C (by decide) rfl dX5_differ_129 ?_
                          refine z_iinc (v := nI (p + 1)) (ls' := [some (.ref (n0 + 113)), some (.int (nI a)), some (.int (nI b)), some (.int 4), some (.int (nI (sumTo (mRn1 y a b) p + 1))), some (.int (nI (p + 1))), some (.int (mSort y a b p)), some (.int 1)]) C rfl (cv_inc p 1) (by decide) rfl dX5_differ_131 ?_
                          refine z_goto (tgt := 40) C dX5_differ_134 (by decide) ?_
                          exact z_cast (σ1 := (κ, y, o)) (ls' := [some (.ref (n0 + 113)), some (.int (nI a)), some (.int (nI b)), some (.int 4), some (.int (nI (sumTo (mRn1 y a b) (p + 1)))), some (.int (nI (p + 1))), none, none]) (st' := []) (ih_40) rfl ⟨rfl, rfl, rfl, rfl, (so_int (by simp [sumTo, mRn1, h_67, g_72, h_87])), rfl, trivial⟩ rfl
        · exact absurd h_23 (by decide +kernel)
set_option maxHeartbeats 4000000 in
set_option maxRecDepth 100000 in
theorem c_X5_differ_x (l : Launch) (D : DD) (n0 : Nat) (κ μ : KH) (o : Int64) (v u t : Int32) (hb : ¬ (okV1 μ v ∧ okV1 μ u ∧ ¬ t < 0 ∧ t ≤ 4)) (y : KH) (hy : y = up μ 0 0 1) : HM l D n0 yX5_differ cX5_differ 8 (some .int) 2 41 [.ref (n0 + 113), .int v, .int u, .int t] (κ, μ, o) (some (.int 0)) (κ, y, o) := by
  refine HM.of (by decide) (by simp [Value.category]) (by simp) (Or.inr (Or.inl ⟨_, .int, rfl, rfl, rfl⟩)) ?_
  intro pp ee ss mm aa bb me cd Q C K hret
  show ZZ pp l ee (rmk 2 41) ss mm aa bb me cd D n0 127 8 0 0 Q _ 0 [some (.ref (n0 + 113)), some (.int v), some (.int u), some (.int t), none, none, none, none] []
  refine z_aload_n C rfl dX5_differ_0 ?_
  refine z_aload_n C rfl dX5_differ_1 ?_
  refine z_iload_n C rfl dX5_differ_2 ?_
  rcases vNum_or v with hv | ⟨j, hj, rfl⟩
  · skip
    refine z_callV (As := [.int v]) (r := (some (.int 0))) (σ1 := (κ, μ, o)) (st := [.ref (n0 + 113)]) (st1 := [.int 0, .ref (n0 + 113)]) C K ok_X5_126 (c_X5_isVolume_n l D n0 κ μ o v hv) enc_M (by decide) rfl rfl ⟨by decide, by decide⟩ ⟨Nat.zero_le _, Nat.zero_le _⟩ (by simp [Value.category]) dX5_differ_3 rfl rfl ?_
    refine z_if_eq (tgt := 26) C dX5_differ_6 (by decide) (fun h_6 => ?_) (fun h_6 => ?_)
    · skip
      refine z_iconst (v := 1) C (by decide +kernel) dX5_differ_26 ?_
      refine z_goto (tgt := 31) C dX5_differ_27 (by decide) ?_
      refine pf_X5_51 (x := 1) C dX5_differ_31 ?_
      rw [← hy]
      refine z_iconst (v := 0) C (by decide +kernel) dX5_differ_34 ?_
      refine z_istore (ls' := [some (.ref (n0 + 113)), some (.int v), some (.int u), some (.int t), some (.int 0), none, none, none]) C (by decide) rfl dX5_differ_35 ?_
      refine z_iconst (v := 0) C (by decide +kernel) dX5_differ_37 ?_
      refine z_istore (ls' := [some (.ref (n0 + 113)), some (.int v), some (.int u), some (.int t), some (.int 0), some (.int 0), none, none]) C (by decide) rfl dX5_differ_38 ?_
      refine z_iload C rfl dX5_differ_40 ?_
      refine z_bipush (v := 40) C (by decide +kernel) dX5_differ_42 ?_
      refine z_icmp_ge (tgt := 137) C dX5_differ_44 (by decide) (fun h_44 => ?_) (fun h_44 => ?_)
      · exact absurd h_44 (by decide +kernel)
      · skip
        refine z_aload_n C rfl dX5_differ_47 ?_
        refine gf_X5_51 (v := 1) C (by rw [hy]; exact up_self) dX5_differ_48 ?_
        refine z_if_ne (tgt := 137) C dX5_differ_51 (by decide) (fun h_51 => ?_) (fun h_51 => ?_)
        · skip
          refine z_iload C rfl dX5_differ_137 ?_
          exact z_endI (hret _ _ dX5_differ_139) rfl rfl
        · exact absurd h_51 (by decide +kernel)
    · exact absurd h_6 (by decide +kernel)
  · skip
    refine z_callV (As := [.int (nI j)]) (r := (some (.int (b2i (!decide (μ 1 j = 0)))))) (σ1 := (κ, μ, o)) (st := [.ref (n0 + 113)]) (st1 := [.int (b2i (!decide (μ 1 j = 0))), .ref (n0 + 113)]) C K ok_X5_126 (c_X5_isVolume l D n0 κ μ o j (by omega)) enc_M (by decide) rfl rfl ⟨by decide, by decide⟩ ⟨Nat.zero_le _, Nat.zero_le _⟩ (by simp [Value.category]) dX5_differ_3 rfl rfl ?_
    refine z_if_eq (tgt := 26) C dX5_differ_6 (by decide) (fun h_6 => ?_) (fun h_6 => ?_)
    · have g_6 := cv_b0 h_6
      refine z_iconst (v := 1) C (by decide +kernel) dX5_differ_26 ?_
      refine z_goto (tgt := 31) C dX5_differ_27 (by decide) ?_
      refine pf_X5_51 (x := 1) C dX5_differ_31 ?_
      rw [← hy]
      refine z_iconst (v := 0) C (by decide +kernel) dX5_differ_34 ?_
      refine z_istore (ls' := [some (.ref (n0 + 113)), some (.int (nI j)), some (.int u), some (.int t), some (.int 0), none, none, none]) C (by decide) rfl dX5_differ_35 ?_
      refine z_iconst (v := 0) C (by decide +kernel) dX5_differ_37 ?_
      refine z_istore (ls' := [some (.ref (n0 + 113)), some (.int (nI j)), some (.int u), some (.int t), some (.int 0), some (.int 0), none, none]) C (by decide) rfl dX5_differ_38 ?_
      refine z_iload C rfl dX5_differ_40 ?_
      refine z_bipush (v := 40) C (by decide +kernel) dX5_differ_42 ?_
      refine z_icmp_ge (tgt := 137) C dX5_differ_44 (by decide) (fun h_44 => ?_) (fun h_44 => ?_)
      · exact absurd h_44 (by decide +kernel)
      · skip
        refine z_aload_n C rfl dX5_differ_47 ?_
        refine gf_X5_51 (v := 1) C (by rw [hy]; exact up_self) dX5_differ_48 ?_
        refine z_if_ne (tgt := 137) C dX5_differ_51 (by decide) (fun h_51 => ?_) (fun h_51 => ?_)
        · skip
          refine z_iload C rfl dX5_differ_137 ?_
          exact z_endI (hret _ _ dX5_differ_139) rfl rfl
        · exact absurd h_51 (by decide +kernel)
    · have g_6 := cv_b1 h_6
      refine z_aload_n C rfl dX5_differ_9 ?_
      refine z_iload_n C rfl dX5_differ_10 ?_
      rcases vNum_or u with hv | ⟨i, hi, rfl⟩
      · skip
        refine z_callV (As := [.int u]) (r := (some (.int 0))) (σ1 := (κ, μ, o)) (st := [.ref (n0 + 113)]) (st1 := [.int 0, .ref (n0 + 113)]) C K ok_X5_126 (c_X5_isVolume_n l D n0 κ μ o u hv) enc_M (by decide) rfl rfl ⟨by decide, by decide⟩ ⟨Nat.zero_le _, Nat.zero_le _⟩ (by simp [Value.category]) dX5_differ_11 rfl rfl ?_
        refine z_if_eq (tgt := 26) C dX5_differ_14 (by decide) (fun h_14 => ?_) (fun h_14 => ?_)
        · skip
          refine z_iconst (v := 1) C (by decide +kernel) dX5_differ_26 ?_
          refine z_goto (tgt := 31) C dX5_differ_27 (by decide) ?_
          refine pf_X5_51 (x := 1) C dX5_differ_31 ?_
          rw [← hy]
          refine z_iconst (v := 0) C (by decide +kernel) dX5_differ_34 ?_
          refine z_istore (ls' := [some (.ref (n0 + 113)), some (.int (nI j)), some (.int u), some (.int t), some (.int 0), none, none, none]) C (by decide) rfl dX5_differ_35 ?_
          refine z_iconst (v := 0) C (by decide +kernel) dX5_differ_37 ?_
          refine z_istore (ls' := [some (.ref (n0 + 113)), some (.int (nI j)), some (.int u), some (.int t), some (.int 0), some (.int 0), none, none]) C (by decide) rfl dX5_differ_38 ?_
          refine z_iload C rfl dX5_differ_40 ?_
          refine z_bipush (v := 40) C (by decide +kernel) dX5_differ_42 ?_
          refine z_icmp_ge (tgt := 137) C dX5_differ_44 (by decide) (fun h_44 => ?_) (fun h_44 => ?_)
          · exact absurd h_44 (by decide +kernel)
          · skip
            refine z_aload_n C rfl dX5_differ_47 ?_
            refine gf_X5_51 (v := 1) C (by rw [hy]; exact up_self) dX5_differ_48 ?_
            refine z_if_ne (tgt := 137) C dX5_differ_51 (by decide) (fun h_51 => ?_) (fun h_51 => ?_)
            · skip
              refine z_iload C rfl dX5_differ_137 ?_
              exact z_endI (hret _ _ dX5_differ_139) rfl rfl
            · exact absurd h_51 (by decide +kernel)
        · exact absurd h_14 (by decide +kernel)
      · skip
        refine z_callV (As := [.int (nI i)]) (r := (some (.int (b2i (!decide (μ 1 i = 0)))))) (σ1 := (κ, μ, o)) (st := [.ref (n0 + 113)]) (st1 := [.int (b2i (!decide (μ 1 i = 0))), .ref (n0 + 113)]) C K ok_X5_126 (c_X5_isVolume l D n0 κ μ o i (by omega)) enc_M (by decide) rfl rfl ⟨by decide, by decide⟩ ⟨Nat.zero_le _, Nat.zero_le _⟩ (by simp [Value.category]) dX5_differ_11 rfl rfl ?_
        refine z_if_eq (tgt := 26) C dX5_differ_14 (by decide) (fun h_14 => ?_) (fun h_14 => ?_)
        · have g_14 := cv_b0 h_14
          refine z_iconst (v := 1) C (by decide +kernel) dX5_differ_26 ?_
          refine z_goto (tgt := 31) C dX5_differ_27 (by decide) ?_
          refine pf_X5_51 (x := 1) C dX5_differ_31 ?_
          rw [← hy]
          refine z_iconst (v := 0) C (by decide +kernel) dX5_differ_34 ?_
          refine z_istore (ls' := [some (.ref (n0 + 113)), some (.int (nI j)), some (.int (nI i)), some (.int t), some (.int 0), none, none, none]) C (by decide) rfl dX5_differ_35 ?_
          refine z_iconst (v := 0) C (by decide +kernel) dX5_differ_37 ?_
          refine z_istore (ls' := [some (.ref (n0 + 113)), some (.int (nI j)), some (.int (nI i)), some (.int t), some (.int 0), some (.int 0), none, none]) C (by decide) rfl dX5_differ_38 ?_
          refine z_iload C rfl dX5_differ_40 ?_
          refine z_bipush (v := 40) C (by decide +kernel) dX5_differ_42 ?_
          refine z_icmp_ge (tgt := 137) C dX5_differ_44 (by decide) (fun h_44 => ?_) (fun h_44 => ?_)
          · exact absurd h_44 (by decide +kernel)
          · skip
            refine z_aload_n C rfl dX5_differ_47 ?_
            refine gf_X5_51 (v := 1) C (by rw [hy]; exact up_self) dX5_differ_48 ?_
            refine z_if_ne (tgt := 137) C dX5_differ_51 (by decide) (fun h_51 => ?_) (fun h_51 => ?_)
            · skip
              refine z_iload C rfl dX5_differ_137 ?_
              exact z_endI (hret _ _ dX5_differ_139) rfl rfl
            · exact absurd h_51 (by decide +kernel)
        · have g_14 := cv_b1 h_14
          refine z_iload_n C rfl dX5_differ_17 ?_
          refine z_if_lt (tgt := 26) C dX5_differ_18 (by decide) (fun h_18 => ?_) (fun h_18 => ?_)
          · skip
            refine z_iconst (v := 1) C (by decide +kernel) dX5_differ_26 ?_
            refine z_goto (tgt := 31) C dX5_differ_27 (by decide) ?_
            refine pf_X5_51 (x := 1) C dX5_differ_31 ?_
            rw [← hy]
            refine z_iconst (v := 0) C (by decide +kernel) dX5_differ_34 ?_
            refine z_istore (ls' := [some (.ref (n0 + 113)), some (.int (nI j)), some (.int (nI i)), some (.int t), some (.int 0), none, none, none]) C (by decide) rfl dX5_differ_35 ?_
            refine z_iconst (v := 0) C (by decide +kernel) dX5_differ_37 ?_
            refine z_istore (ls' := [some (.ref (n0 + 113)), some (.int (nI j)), some (.int (nI i)), some (.int t), some (.int 0), some (.int 0), none, none]) C (by decide) rfl dX5_differ_38 ?_
            refine z_iload C rfl dX5_differ_40 ?_
            refine z_bipush (v := 40) C (by decide +kernel) dX5_differ_42 ?_
            refine z_icmp_ge (tgt := 137) C dX5_differ_44 (by decide) (fun h_44 => ?_) (fun h_44 => ?_)
            · exact absurd h_44 (by decide +kernel)
            · skip
              refine z_aload_n C rfl dX5_differ_47 ?_
              refine gf_X5_51 (v := 1) C (by rw [hy]; exact up_self) dX5_differ_48 ?_
              refine z_if_ne (tgt := 137) C dX5_differ_51 (by decide) (fun h_51 => ?_) (fun h_51 => ?_)
              · skip
                refine z_iload C rfl dX5_differ_137 ?_
                exact z_endI (hret _ _ dX5_differ_139) rfl rfl
              · exact absurd h_51 (by decide +kernel)
          · skip
            refine z_iload_n C rfl dX5_differ_21 ?_
            refine z_iconst (v := 4) C (by decide +kernel) dX5_differ_22 ?_
            refine z_icmp_le (tgt := 30) C dX5_differ_23 (by decide) (fun h_23 => ?_) (fun h_23 => ?_)
            · skip
              exact absurd ⟨⟨j, hj, rfl, b_ne g_6⟩, ⟨i, hi, rfl, b_ne g_14⟩, h_18, h_23⟩ hb
            · skip
              refine z_iconst (v := 1) C (by decide +kernel) dX5_differ_26 ?_
              refine z_goto (tgt := 31) C dX5_differ_27 (by decide) ?_
              refine pf_X5_51 (x := 1) C dX5_differ_31 ?_
              rw [← hy]
              refine z_iconst (v := 0) C (by decide +kernel) dX5_differ_34 ?_
              refine z_istore (ls' := [some (.ref (n0 + 113)), some (.int (nI j)), some (.int (nI i)), some (.int t), some (.int 0), none, none, none]) C (by decide) rfl dX5_differ_35 ?_
              refine z_iconst (v := 0) C (by decide +kernel) dX5_differ_37 ?_
              refine z_istore (ls' := [some (.ref (n0 + 113)), some (.int (nI j)), some (.int (nI i)), some (.int t), some (.int 0), some (.int 0), none, none]) C (by decide) rfl dX5_differ_38 ?_
              refine z_iload C rfl dX5_differ_40 ?_
              refine z_bipush (v := 40) C (by decide +kernel) dX5_differ_42 ?_
              refine z_icmp_ge (tgt := 137) C dX5_differ_44 (by decide) (fun h_44 => ?_) (fun h_44 => ?_)
              · exact absurd h_44 (by decide +kernel)
              · skip
                refine z_aload_n C rfl dX5_differ_47 ?_
                refine gf_X5_51 (v := 1) C (by rw [hy]; exact up_self) dX5_differ_48 ?_
                refine z_if_ne (tgt := 137) C dX5_differ_51 (by decide) (fun h_51 => ?_) (fun h_51 => ?_)
                · skip
                  refine z_iload C rfl dX5_differ_137 ?_
                  exact z_endI (hret _ _ dX5_differ_139) rfl rfl
                · exact absurd h_51 (by decide +kernel)
set_option maxHeartbeats 4000000 in
set_option maxRecDepth 100000 in
theorem c_X5_told_0 (l : Launch) (D : DD) (n0 : Nat) (κ μ : KH) (o : Int64) (y : KH) (hy : y = up μ 0 0 0) : HM l D n0 yX5_told cX5_told 2 (some .int) 0 0 [.ref (n0 + 113), .int 0] (κ, μ, o) (some (.int (y 0 9))) (κ, y, o) := by
  refine HM.of (by decide) (by simp [Value.category]) (by simp) (Or.inr (Or.inl ⟨_, .int, rfl, rfl, rfl⟩)) ?_
  intro pp ee ss mm aa bb me cd Q C K hret
  show ZZ pp l ee (rmk 0 0) ss mm aa bb me cd D n0 127 2 0 0 Q _ 0 [some (.ref (n0 + 113)), some (.int 0)] []
  refine z_aload_n C rfl dX5_told_0 ?_
  refine z_iload_n C rfl dX5_told_1 ?_
  refine z_if_lt (tgt := 11) C dX5_told_2 (by decide) (fun h_2 => ?_) (fun h_2 => ?_)
  · exact absurd h_2 (by decide +kernel)
  · skip
    refine z_iload_n C rfl dX5_told_5 ?_
    refine z_bipush (v := 13) C (by decide +kernel) dX5_told_6 ?_
    refine z_icmp_le (tgt := 15) C dX5_told_8 (by decide) (fun h_8 => ?_) (fun h_8 => ?_)
    · skip
      refine z_iconst (v := 0) C (by decide +kernel) dX5_told_15 ?_
      refine pf_X5_51 (x := 0) C dX5_told_16 ?_
      rw [← hy]
      refine z_iload_n C rfl dX5_told_19 ?_
      refine z_tableIn (tgt := 92) C dX5_told_20 (by decide +kernel) (by decide +kernel) (off := 72) (by decide +kernel) (by decide) ?_
      refine z_aload_n C rfl dX5_told_92 ?_
      refine gf_X5_32 (v := y 0 9) C rfl dX5_told_93 ?_
      exact z_endI (hret _ _ dX5_told_96) rfl rfl
    · exact absurd h_8 (by decide +kernel)
set_option maxHeartbeats 4000000 in
set_option maxRecDepth 100000 in
theorem c_X5_told_1 (l : Launch) (D : DD) (n0 : Nat) (κ μ : KH) (o : Int64) (y : KH) (hy : y = up μ 0 0 0) (hE : y 0 9 = nI (nE y)) (hE9 : nE y < 97) : HM l D n0 yX5_told cX5_told 2 (some .int) 4 90 [.ref (n0 + 113), .int 1] (κ, μ, o) (some (.int (nI (mFM y (nE y))))) (κ, y, o) := by
  refine HM.of (by decide) (by simp [Value.category]) (by simp) (Or.inr (Or.inl ⟨_, .int, rfl, rfl, rfl⟩)) ?_
  intro pp ee ss mm aa bb me cd Q C K hret
  show ZZ pp l ee (rmk 4 90) ss mm aa bb me cd D n0 127 2 0 0 Q _ 0 [some (.ref (n0 + 113)), some (.int 1)] []
  refine z_aload_n C rfl dX5_told_0 ?_
  refine z_iload_n C rfl dX5_told_1 ?_
  refine z_if_lt (tgt := 11) C dX5_told_2 (by decide) (fun h_2 => ?_) (fun h_2 => ?_)
  · exact absurd h_2 (by decide +kernel)
  · skip
    refine z_iload_n C rfl dX5_told_5 ?_
    refine z_bipush (v := 13) C (by decide +kernel) dX5_told_6 ?_
    refine z_icmp_le (tgt := 15) C dX5_told_8 (by decide) (fun h_8 => ?_) (fun h_8 => ?_)
    · skip
      refine z_iconst (v := 0) C (by decide +kernel) dX5_told_15 ?_
      refine pf_X5_51 (x := 0) C dX5_told_16 ?_
      rw [← hy]
      refine z_iload_n C rfl dX5_told_19 ?_
      refine z_tableIn (tgt := 97) C dX5_told_20 (by decide +kernel) (by decide +kernel) (off := 77) (by decide +kernel) (by decide) ?_
      refine z_aload_n C rfl dX5_told_97 ?_
      refine z_callV (As := []) (r := (some (.int (nI (mFM y (nE y)))))) (σ1 := (κ, y, o)) (st := []) (st1 := [.int (nI (mFM y (nE y)))]) C K ok_X5_92 (c_X5_freeMany l D n0 κ y o (nE y) hE (by omega)) enc_M (by decide) rfl rfl ⟨by decide, by decide⟩ ⟨Nat.zero_le _, Nat.zero_le _⟩ (by simp [Value.category]) dX5_told_98 rfl rfl ?_
      exact z_endI (hret _ _ dX5_told_101) rfl rfl
    · exact absurd h_8 (by decide +kernel)
set_option maxHeartbeats 4000000 in
set_option maxRecDepth 100000 in
theorem c_X5_told_2 (l : Launch) (D : DD) (n0 : Nat) (κ μ : KH) (o : Int64) (y : KH) (hy : y = up μ 0 0 0) : HM l D n0 yX5_told cX5_told 2 (some .int) 0 0 [.ref (n0 + 113), .int 2] (κ, μ, o) (some (.int (y 0 16))) (κ, y, o) := by
  refine HM.of (by decide) (by simp [Value.category]) (by simp) (Or.inr (Or.inl ⟨_, .int, rfl, rfl, rfl⟩)) ?_
  intro pp ee ss mm aa bb me cd Q C K hret
  show ZZ pp l ee (rmk 0 0) ss mm aa bb me cd D n0 127 2 0 0 Q _ 0 [some (.ref (n0 + 113)), some (.int 2)] []
  refine z_aload_n C rfl dX5_told_0 ?_
  refine z_iload_n C rfl dX5_told_1 ?_
  refine z_if_lt (tgt := 11) C dX5_told_2 (by decide) (fun h_2 => ?_) (fun h_2 => ?_)
  · exact absurd h_2 (by decide +kernel)
  · skip
    refine z_iload_n C rfl dX5_told_5 ?_
    refine z_bipush (v := 13) C (by decide +kernel) dX5_told_6 ?_
    refine z_icmp_le (tgt := 15) C dX5_told_8 (by decide) (fun h_8 => ?_) (fun h_8 => ?_)
    · skip
      refine z_iconst (v := 0) C (by decide +kernel) dX5_told_15 ?_
      refine pf_X5_51 (x := 0) C dX5_told_16 ?_
      rw [← hy]
      refine z_iload_n C rfl dX5_told_19 ?_
      refine z_tableIn (tgt := 102) C dX5_told_20 (by decide +kernel) (by decide +kernel) (off := 82) (by decide +kernel) (by decide) ?_
      refine z_aload_n C rfl dX5_told_102 ?_
      refine gf_X5_110 (v := y 0 16) C rfl dX5_told_103 ?_
      exact z_endI (hret _ _ dX5_told_106) rfl rfl
    · exact absurd h_8 (by decide +kernel)
set_option maxHeartbeats 4000000 in
set_option maxRecDepth 100000 in
theorem c_X5_told_3 (l : Launch) (D : DD) (n0 : Nat) (κ μ : KH) (o : Int64) (y : KH) (hy : y = up μ 0 0 0) : HM l D n0 yX5_told cX5_told 2 (some .int) 0 0 [.ref (n0 + 113), .int 3] (κ, μ, o) (some (.int (y 0 23))) (κ, y, o) := by
  refine HM.of (by decide) (by simp [Value.category]) (by simp) (Or.inr (Or.inl ⟨_, .int, rfl, rfl, rfl⟩)) ?_
  intro pp ee ss mm aa bb me cd Q C K hret
  show ZZ pp l ee (rmk 0 0) ss mm aa bb me cd D n0 127 2 0 0 Q _ 0 [some (.ref (n0 + 113)), some (.int 3)] []
  refine z_aload_n C rfl dX5_told_0 ?_
  refine z_iload_n C rfl dX5_told_1 ?_
  refine z_if_lt (tgt := 11) C dX5_told_2 (by decide) (fun h_2 => ?_) (fun h_2 => ?_)
  · exact absurd h_2 (by decide +kernel)
  · skip
    refine z_iload_n C rfl dX5_told_5 ?_
    refine z_bipush (v := 13) C (by decide +kernel) dX5_told_6 ?_
    refine z_icmp_le (tgt := 15) C dX5_told_8 (by decide) (fun h_8 => ?_) (fun h_8 => ?_)
    · skip
      refine z_iconst (v := 0) C (by decide +kernel) dX5_told_15 ?_
      refine pf_X5_51 (x := 0) C dX5_told_16 ?_
      rw [← hy]
      refine z_iload_n C rfl dX5_told_19 ?_
      refine z_tableIn (tgt := 107) C dX5_told_20 (by decide +kernel) (by decide +kernel) (off := 87) (by decide +kernel) (by decide) ?_
      refine z_aload_n C rfl dX5_told_107 ?_
      refine gf_X5_107 (v := y 0 23) C rfl dX5_told_108 ?_
      exact z_endI (hret _ _ dX5_told_111) rfl rfl
    · exact absurd h_8 (by decide +kernel)
set_option maxHeartbeats 4000000 in
set_option maxRecDepth 100000 in
theorem c_X5_told_4 (l : Launch) (D : DD) (n0 : Nat) (κ μ : KH) (o : Int64) (y : KH) (hy : y = up μ 0 0 0) : HM l D n0 yX5_told cX5_told 2 (some .int) 0 0 [.ref (n0 + 113), .int 4] (κ, μ, o) (some (.int (y 0 21))) (κ, y, o) := by
  refine HM.of (by decide) (by simp [Value.category]) (by simp) (Or.inr (Or.inl ⟨_, .int, rfl, rfl, rfl⟩)) ?_
  intro pp ee ss mm aa bb me cd Q C K hret
  show ZZ pp l ee (rmk 0 0) ss mm aa bb me cd D n0 127 2 0 0 Q _ 0 [some (.ref (n0 + 113)), some (.int 4)] []
  refine z_aload_n C rfl dX5_told_0 ?_
  refine z_iload_n C rfl dX5_told_1 ?_
  refine z_if_lt (tgt := 11) C dX5_told_2 (by decide) (fun h_2 => ?_) (fun h_2 => ?_)
  · exact absurd h_2 (by decide +kernel)
  · skip
    refine z_iload_n C rfl dX5_told_5 ?_
    refine z_bipush (v := 13) C (by decide +kernel) dX5_told_6 ?_
    refine z_icmp_le (tgt := 15) C dX5_told_8 (by decide) (fun h_8 => ?_) (fun h_8 => ?_)
    · skip
      refine z_iconst (v := 0) C (by decide +kernel) dX5_told_15 ?_
      refine pf_X5_51 (x := 0) C dX5_told_16 ?_
      rw [← hy]
      refine z_iload_n C rfl dX5_told_19 ?_
      refine z_tableIn (tgt := 112) C dX5_told_20 (by decide +kernel) (by decide +kernel) (off := 92) (by decide +kernel) (by decide) ?_
      refine z_aload_n C rfl dX5_told_112 ?_
      refine gf_X5_116 (v := y 0 21) C rfl dX5_told_113 ?_
      exact z_endI (hret _ _ dX5_told_116) rfl rfl
    · exact absurd h_8 (by decide +kernel)
set_option maxHeartbeats 4000000 in
set_option maxRecDepth 100000 in
theorem c_X5_told_5 (l : Launch) (D : DD) (n0 : Nat) (κ μ : KH) (o : Int64) (y : KH) (hy : y = up μ 0 0 0) : HM l D n0 yX5_told cX5_told 2 (some .int) 0 0 [.ref (n0 + 113), .int 5] (κ, μ, o) (some (.int (y 0 14))) (κ, y, o) := by
  refine HM.of (by decide) (by simp [Value.category]) (by simp) (Or.inr (Or.inl ⟨_, .int, rfl, rfl, rfl⟩)) ?_
  intro pp ee ss mm aa bb me cd Q C K hret
  show ZZ pp l ee (rmk 0 0) ss mm aa bb me cd D n0 127 2 0 0 Q _ 0 [some (.ref (n0 + 113)), some (.int 5)] []
  refine z_aload_n C rfl dX5_told_0 ?_
  refine z_iload_n C rfl dX5_told_1 ?_
  refine z_if_lt (tgt := 11) C dX5_told_2 (by decide) (fun h_2 => ?_) (fun h_2 => ?_)
  · exact absurd h_2 (by decide +kernel)
  · skip
    refine z_iload_n C rfl dX5_told_5 ?_
    refine z_bipush (v := 13) C (by decide +kernel) dX5_told_6 ?_
    refine z_icmp_le (tgt := 15) C dX5_told_8 (by decide) (fun h_8 => ?_) (fun h_8 => ?_)
    · skip
      refine z_iconst (v := 0) C (by decide +kernel) dX5_told_15 ?_
      refine pf_X5_51 (x := 0) C dX5_told_16 ?_
      rw [← hy]
      refine z_iload_n C rfl dX5_told_19 ?_
      refine z_tableIn (tgt := 117) C dX5_told_20 (by decide +kernel) (by decide +kernel) (off := 97) (by decide +kernel) (by decide) ?_
      refine z_aload_n C rfl dX5_told_117 ?_
      refine gf_X5_89 (v := y 0 14) C rfl dX5_told_118 ?_
      exact z_endI (hret _ _ dX5_told_121) rfl rfl
    · exact absurd h_8 (by decide +kernel)
set_option maxHeartbeats 4000000 in
set_option maxRecDepth 100000 in
theorem c_X5_told_6 (l : Launch) (D : DD) (n0 : Nat) (κ μ : KH) (o : Int64) (y : KH) (hy : y = up μ 0 0 0) : HM l D n0 yX5_told cX5_told 2 (some .int) 0 0 [.ref (n0 + 113), .int 6] (κ, μ, o) (some (.int (y 0 12))) (κ, y, o) := by
  refine HM.of (by decide) (by simp [Value.category]) (by simp) (Or.inr (Or.inl ⟨_, .int, rfl, rfl, rfl⟩)) ?_
  intro pp ee ss mm aa bb me cd Q C K hret
  show ZZ pp l ee (rmk 0 0) ss mm aa bb me cd D n0 127 2 0 0 Q _ 0 [some (.ref (n0 + 113)), some (.int 6)] []
  refine z_aload_n C rfl dX5_told_0 ?_
  refine z_iload_n C rfl dX5_told_1 ?_
  refine z_if_lt (tgt := 11) C dX5_told_2 (by decide) (fun h_2 => ?_) (fun h_2 => ?_)
  · exact absurd h_2 (by decide +kernel)
  · skip
    refine z_iload_n C rfl dX5_told_5 ?_
    refine z_bipush (v := 13) C (by decide +kernel) dX5_told_6 ?_
    refine z_icmp_le (tgt := 15) C dX5_told_8 (by decide) (fun h_8 => ?_) (fun h_8 => ?_)
    · skip
      refine z_iconst (v := 0) C (by decide +kernel) dX5_told_15 ?_
      refine pf_X5_51 (x := 0) C dX5_told_16 ?_
      rw [← hy]
      refine z_iload_n C rfl dX5_told_19 ?_
      refine z_tableIn (tgt := 122) C dX5_told_20 (by decide +kernel) (by decide +kernel) (off := 102) (by decide +kernel) (by decide) ?_
      refine z_aload_n C rfl dX5_told_122 ?_
      refine gf_X5_80 (v := y 0 12) C rfl dX5_told_123 ?_
      exact z_endI (hret _ _ dX5_told_126) rfl rfl
    · exact absurd h_8 (by decide +kernel)
set_option maxHeartbeats 4000000 in
set_option maxRecDepth 100000 in
theorem c_X5_told_7 (l : Launch) (D : DD) (n0 : Nat) (κ μ : KH) (o : Int64) (y : KH) (hy : y = up μ 0 0 0) : HM l D n0 yX5_told cX5_told 2 (some .int) 0 0 [.ref (n0 + 113), .int 7] (κ, μ, o) (some (.int (y 0 15))) (κ, y, o) := by
  refine HM.of (by decide) (by simp [Value.category]) (by simp) (Or.inr (Or.inl ⟨_, .int, rfl, rfl, rfl⟩)) ?_
  intro pp ee ss mm aa bb me cd Q C K hret
  show ZZ pp l ee (rmk 0 0) ss mm aa bb me cd D n0 127 2 0 0 Q _ 0 [some (.ref (n0 + 113)), some (.int 7)] []
  refine z_aload_n C rfl dX5_told_0 ?_
  refine z_iload_n C rfl dX5_told_1 ?_
  refine z_if_lt (tgt := 11) C dX5_told_2 (by decide) (fun h_2 => ?_) (fun h_2 => ?_)
  · exact absurd h_2 (by decide +kernel)
  · skip
    refine z_iload_n C rfl dX5_told_5 ?_
    refine z_bipush (v := 13) C (by decide +kernel) dX5_told_6 ?_
    refine z_icmp_le (tgt := 15) C dX5_told_8 (by decide) (fun h_8 => ?_) (fun h_8 => ?_)
    · skip
      refine z_iconst (v := 0) C (by decide +kernel) dX5_told_15 ?_
      refine pf_X5_51 (x := 0) C dX5_told_16 ?_
      rw [← hy]
      refine z_iload_n C rfl dX5_told_19 ?_
      refine z_tableIn (tgt := 127) C dX5_told_20 (by decide +kernel) (by decide +kernel) (off := 107) (by decide +kernel) (by decide) ?_
      refine z_aload_n C rfl dX5_told_127 ?_
      refine gf_X5_86 (v := y 0 15) C rfl dX5_told_128 ?_
      exact z_endI (hret _ _ dX5_told_131) rfl rfl
    · exact absurd h_8 (by decide +kernel)
set_option maxHeartbeats 4000000 in
set_option maxRecDepth 100000 in
theorem c_X5_told_8 (l : Launch) (D : DD) (n0 : Nat) (κ μ : KH) (o : Int64) (y : KH) (hy : y = up μ 0 0 0) : HM l D n0 yX5_told cX5_told 2 (some .int) 1 23 [.ref (n0 + 113), .int 8] (κ, μ, o) (some (.int (nI (mVol y 0)))) (κ, y, o) := by
  refine HM.of (by decide) (by simp [Value.category]) (by simp) (Or.inr (Or.inl ⟨_, .int, rfl, rfl, rfl⟩)) ?_
  intro pp ee ss mm aa bb me cd Q C K hret
  show ZZ pp l ee (rmk 1 23) ss mm aa bb me cd D n0 127 2 0 0 Q _ 0 [some (.ref (n0 + 113)), some (.int 8)] []
  refine z_aload_n C rfl dX5_told_0 ?_
  refine z_iload_n C rfl dX5_told_1 ?_
  refine z_if_lt (tgt := 11) C dX5_told_2 (by decide) (fun h_2 => ?_) (fun h_2 => ?_)
  · exact absurd h_2 (by decide +kernel)
  · skip
    refine z_iload_n C rfl dX5_told_5 ?_
    refine z_bipush (v := 13) C (by decide +kernel) dX5_told_6 ?_
    refine z_icmp_le (tgt := 15) C dX5_told_8 (by decide) (fun h_8 => ?_) (fun h_8 => ?_)
    · skip
      refine z_iconst (v := 0) C (by decide +kernel) dX5_told_15 ?_
      refine pf_X5_51 (x := 0) C dX5_told_16 ?_
      rw [← hy]
      refine z_iload_n C rfl dX5_told_19 ?_
      refine z_tableIn (tgt := 132) C dX5_told_20 (by decide +kernel) (by decide +kernel) (off := 112) (by decide +kernel) (by decide) ?_
      refine z_aload_n C rfl dX5_told_132 ?_
      refine z_iconst (v := 0) C (by decide +kernel) dX5_told_133 ?_
      refine z_callV (As := [.int 0]) (r := (some (.int (nI (mVol y 0))))) (σ1 := (κ, y, o)) (st := []) (st1 := [.int (nI (mVol y 0))]) C K ok_X5_147 (c_X5_volumes l D n0 κ y o 0 (by omega)) enc_M (by decide) rfl rfl ⟨by decide, by decide⟩ ⟨Nat.zero_le _, Nat.zero_le _⟩ (by simp [Value.category]) dX5_told_134 rfl rfl ?_
      exact z_endI (hret _ _ dX5_told_137) rfl rfl
    · exact absurd h_8 (by decide +kernel)
set_option maxHeartbeats 4000000 in
set_option maxRecDepth 100000 in
theorem c_X5_told_9 (l : Launch) (D : DD) (n0 : Nat) (κ μ : KH) (o : Int64) (y : KH) (hy : y = up μ 0 0 0) : HM l D n0 yX5_told cX5_told 2 (some .int) 1 23 [.ref (n0 + 113), .int 9] (κ, μ, o) (some (.int (nI (mVol y 1)))) (κ, y, o) := by
  refine HM.of (by decide) (by simp [Value.category]) (by simp) (Or.inr (Or.inl ⟨_, .int, rfl, rfl, rfl⟩)) ?_
  intro pp ee ss mm aa bb me cd Q C K hret
  show ZZ pp l ee (rmk 1 23) ss mm aa bb me cd D n0 127 2 0 0 Q _ 0 [some (.ref (n0 + 113)), some (.int 9)] []
  refine z_aload_n C rfl dX5_told_0 ?_
  refine z_iload_n C rfl dX5_told_1 ?_
  refine z_if_lt (tgt := 11) C dX5_told_2 (by decide) (fun h_2 => ?_) (fun h_2 => ?_)
  · exact absurd h_2 (by decide +kernel)
  · skip
    refine z_iload_n C rfl dX5_told_5 ?_
    refine z_bipush (v := 13) C (by decide +kernel) dX5_told_6 ?_
    refine z_icmp_le (tgt := 15) C dX5_told_8 (by decide) (fun h_8 => ?_) (fun h_8 => ?_)
    · skip
      refine z_iconst (v := 0) C (by decide +kernel) dX5_told_15 ?_
      refine pf_X5_51 (x := 0) C dX5_told_16 ?_
      rw [← hy]
      refine z_iload_n C rfl dX5_told_19 ?_
      refine z_tableIn (tgt := 138) C dX5_told_20 (by decide +kernel) (by decide +kernel) (off := 118) (by decide +kernel) (by decide) ?_
      refine z_aload_n C rfl dX5_told_138 ?_
      refine z_iconst (v := 1) C (by decide +kernel) dX5_told_139 ?_
      refine z_callV (As := [.int 1]) (r := (some (.int (nI (mVol y 1))))) (σ1 := (κ, y, o)) (st := []) (st1 := [.int (nI (mVol y 1))]) C K ok_X5_147 (c_X5_volumes l D n0 κ y o 1 (by omega)) enc_M (by decide) rfl rfl ⟨by decide, by decide⟩ ⟨Nat.zero_le _, Nat.zero_le _⟩ (by simp [Value.category]) dX5_told_140 rfl rfl ?_
      exact z_endI (hret _ _ dX5_told_143) rfl rfl
    · exact absurd h_8 (by decide +kernel)
set_option maxHeartbeats 4000000 in
set_option maxRecDepth 100000 in
theorem c_X5_told_10 (l : Launch) (D : DD) (n0 : Nat) (κ μ : KH) (o : Int64) (y : KH) (hy : y = up μ 0 0 0) : HM l D n0 yX5_told cX5_told 2 (some .int) 1 23 [.ref (n0 + 113), .int 10] (κ, μ, o) (some (.int (nI (mVol y 2)))) (κ, y, o) := by
  refine HM.of (by decide) (by simp [Value.category]) (by simp) (Or.inr (Or.inl ⟨_, .int, rfl, rfl, rfl⟩)) ?_
  intro pp ee ss mm aa bb me cd Q C K hret
  show ZZ pp l ee (rmk 1 23) ss mm aa bb me cd D n0 127 2 0 0 Q _ 0 [some (.ref (n0 + 113)), some (.int 10)] []
  refine z_aload_n C rfl dX5_told_0 ?_
  refine z_iload_n C rfl dX5_told_1 ?_
  refine z_if_lt (tgt := 11) C dX5_told_2 (by decide) (fun h_2 => ?_) (fun h_2 => ?_)
  · exact absurd h_2 (by decide +kernel)
  · skip
    refine z_iload_n C rfl dX5_told_5 ?_
    refine z_bipush (v := 13) C (by decide +kernel) dX5_told_6 ?_
    refine z_icmp_le (tgt := 15) C dX5_told_8 (by decide) (fun h_8 => ?_) (fun h_8 => ?_)
    · skip
      refine z_iconst (v := 0) C (by decide +kernel) dX5_told_15 ?_
      refine pf_X5_51 (x := 0) C dX5_told_16 ?_
      rw [← hy]
      refine z_iload_n C rfl dX5_told_19 ?_
      refine z_tableIn (tgt := 144) C dX5_told_20 (by decide +kernel) (by decide +kernel) (off := 124) (by decide +kernel) (by decide) ?_
      refine z_aload_n C rfl dX5_told_144 ?_
      refine z_iconst (v := 2) C (by decide +kernel) dX5_told_145 ?_
      refine z_callV (As := [.int 2]) (r := (some (.int (nI (mVol y 2))))) (σ1 := (κ, y, o)) (st := []) (st1 := [.int (nI (mVol y 2))]) C K ok_X5_147 (c_X5_volumes l D n0 κ y o 2 (by omega)) enc_M (by decide) rfl rfl ⟨by decide, by decide⟩ ⟨Nat.zero_le _, Nat.zero_le _⟩ (by simp [Value.category]) dX5_told_146 rfl rfl ?_
      exact z_endI (hret _ _ dX5_told_149) rfl rfl
    · exact absurd h_8 (by decide +kernel)
set_option maxHeartbeats 4000000 in
set_option maxRecDepth 100000 in
theorem c_X5_told_11 (l : Launch) (D : DD) (n0 : Nat) (κ μ : KH) (o : Int64) (y : KH) (hy : y = up μ 0 0 0) : HM l D n0 yX5_told cX5_told 2 (some .int) 0 0 [.ref (n0 + 113), .int 11] (κ, μ, o) (some (.int (if y 0 8 = 0 then 0 else 1))) (κ, y, o) := by
  refine HM.of (by decide) (by simp [Value.category]) (by simp) (Or.inr (Or.inl ⟨_, .int, rfl, rfl, rfl⟩)) ?_
  intro pp ee ss mm aa bb me cd Q C K hret
  show ZZ pp l ee (rmk 0 0) ss mm aa bb me cd D n0 127 2 0 0 Q _ 0 [some (.ref (n0 + 113)), some (.int 11)] []
  refine z_aload_n C rfl dX5_told_0 ?_
  refine z_iload_n C rfl dX5_told_1 ?_
  refine z_if_lt (tgt := 11) C dX5_told_2 (by decide) (fun h_2 => ?_) (fun h_2 => ?_)
  · exact absurd h_2 (by decide +kernel)
  · skip
    refine z_iload_n C rfl dX5_told_5 ?_
    refine z_bipush (v := 13) C (by decide +kernel) dX5_told_6 ?_
    refine z_icmp_le (tgt := 15) C dX5_told_8 (by decide) (fun h_8 => ?_) (fun h_8 => ?_)
    · skip
      refine z_iconst (v := 0) C (by decide +kernel) dX5_told_15 ?_
      refine pf_X5_51 (x := 0) C dX5_told_16 ?_
      rw [← hy]
      refine z_iload_n C rfl dX5_told_19 ?_
      refine z_tableIn (tgt := 150) C dX5_told_20 (by decide +kernel) (by decide +kernel) (off := 130) (by decide +kernel) (by decide) ?_
      refine z_aload_n C rfl dX5_told_150 ?_
      refine gf_X5_166 (v := y 0 8) C rfl dX5_told_151 ?_
      refine z_if_eq (tgt := 161) C dX5_told_154 (by decide) (fun h_154 => ?_) (fun h_154 => ?_)
      · skip
        refine z_iconst (v := 0) C (by decide +kernel) dX5_told_161 ?_
        exact z_endI (hret _ _ dX5_told_162) (by rw [if_pos h_154]) rfl
      · skip
        refine z_iconst (v := 1) C (by decide +kernel) dX5_told_157 ?_
        refine z_goto (tgt := 162) C dX5_told_158 (by decide) ?_
        exact z_endI (hret _ _ dX5_told_162) (by rw [if_neg h_154]) rfl
    · exact absurd h_8 (by decide +kernel)
set_option maxHeartbeats 4000000 in
set_option maxRecDepth 100000 in
theorem c_X5_told_12 (l : Launch) (D : DD) (n0 : Nat) (κ μ : KH) (o : Int64) (y : KH) (hy : y = up μ 0 0 0) : HM l D n0 yX5_told cX5_told 2 (some .int) 0 0 [.ref (n0 + 113), .int 12] (κ, μ, o) (some (.int (y 0 20))) (κ, y, o) := by
  refine HM.of (by decide) (by simp [Value.category]) (by simp) (Or.inr (Or.inl ⟨_, .int, rfl, rfl, rfl⟩)) ?_
  intro pp ee ss mm aa bb me cd Q C K hret
  show ZZ pp l ee (rmk 0 0) ss mm aa bb me cd D n0 127 2 0 0 Q _ 0 [some (.ref (n0 + 113)), some (.int 12)] []
  refine z_aload_n C rfl dX5_told_0 ?_
  refine z_iload_n C rfl dX5_told_1 ?_
  refine z_if_lt (tgt := 11) C dX5_told_2 (by decide) (fun h_2 => ?_) (fun h_2 => ?_)
  · exact absurd h_2 (by decide +kernel)
  · skip
    refine z_iload_n C rfl dX5_told_5 ?_
    refine z_bipush (v := 13) C (by decide +kernel) dX5_told_6 ?_
    refine z_icmp_le (tgt := 15) C dX5_told_8 (by decide) (fun h_8 => ?_) (fun h_8 => ?_)
    · skip
      refine z_iconst (v := 0) C (by decide +kernel) dX5_told_15 ?_
      refine pf_X5_51 (x := 0) C dX5_told_16 ?_
      rw [← hy]
      refine z_iload_n C rfl dX5_told_19 ?_
      refine z_tableIn (tgt := 163) C dX5_told_20 (by decide +kernel) (by decide +kernel) (off := 143) (by decide +kernel) (by decide) ?_
      refine z_aload_n C rfl dX5_told_163 ?_
      refine gf_X5_173 (v := y 0 20) C rfl dX5_told_164 ?_
      exact z_endI (hret _ _ dX5_told_167) rfl rfl
    · exact absurd h_8 (by decide +kernel)
set_option maxHeartbeats 4000000 in
set_option maxRecDepth 100000 in
theorem c_X5_told_13 (l : Launch) (D : DD) (n0 : Nat) (κ μ : KH) (o : Int64) (y : KH) (hy : y = up μ 0 0 0) : HM l D n0 yX5_told cX5_told 2 (some .int) 0 0 [.ref (n0 + 113), .int 13] (κ, μ, o) (some (.int (if y 0 16 = 1 then y 0 18 - y 0 19 else 0))) (κ, y, o) := by
  refine HM.of (by decide) (by simp [Value.category]) (by simp) (Or.inr (Or.inl ⟨_, .int, rfl, rfl, rfl⟩)) ?_
  intro pp ee ss mm aa bb me cd Q C K hret
  show ZZ pp l ee (rmk 0 0) ss mm aa bb me cd D n0 127 2 0 0 Q _ 0 [some (.ref (n0 + 113)), some (.int 13)] []
  refine z_aload_n C rfl dX5_told_0 ?_
  refine z_iload_n C rfl dX5_told_1 ?_
  refine z_if_lt (tgt := 11) C dX5_told_2 (by decide) (fun h_2 => ?_) (fun h_2 => ?_)
  · exact absurd h_2 (by decide +kernel)
  · skip
    refine z_iload_n C rfl dX5_told_5 ?_
    refine z_bipush (v := 13) C (by decide +kernel) dX5_told_6 ?_
    refine z_icmp_le (tgt := 15) C dX5_told_8 (by decide) (fun h_8 => ?_) (fun h_8 => ?_)
    · skip
      refine z_iconst (v := 0) C (by decide +kernel) dX5_told_15 ?_
      refine pf_X5_51 (x := 0) C dX5_told_16 ?_
      rw [← hy]
      refine z_iload_n C rfl dX5_told_19 ?_
      refine z_tableIn (tgt := 168) C dX5_told_20 (by decide +kernel) (by decide +kernel) (off := 148) (by decide +kernel) (by decide) ?_
      refine z_aload_n C rfl dX5_told_168 ?_
      refine gf_X5_110 (v := y 0 16) C rfl dX5_told_169 ?_
      refine z_iconst (v := 1) C (by decide +kernel) dX5_told_172 ?_
      refine z_icmp_ne (tgt := 188) C dX5_told_173 (by decide) (fun h_173 => ?_) (fun h_173 => ?_)
      · skip
        refine z_iconst (v := 0) C (by decide +kernel) dX5_told_188 ?_
        exact z_endI (hret _ _ dX5_told_189) (by rw [if_neg h_173]) rfl
      · skip
        refine z_aload_n C rfl dX5_told_176 ?_
        refine gf_X5_138 (v := y 0 18) C rfl dX5_told_177 ?_
        refine z_aload_n C rfl dX5_told_180 ?_
        refine gf_X5_141 (v := y 0 19) C rfl dX5_told_181 ?_
        refine z_isub (v := (y 0 18) - (y 0 19)) C rfl dX5_told_184 ?_
        refine z_goto (tgt := 189) C dX5_told_185 (by decide) ?_
        exact z_endI (hret _ _ dX5_told_189) (by rw [if_pos h_173]) rfl
    · exact absurd h_8 (by decide +kernel)
set_option maxHeartbeats 4000000 in
set_option maxRecDepth 100000 in
theorem c_X5_told_x (l : Launch) (D : DD) (n0 : Nat) (κ μ : KH) (o : Int64) (t : Int32) (hb : t < 0 ∨ 13 < t) : HM l D n0 yX5_told cX5_told 2 (some .int) 0 0 [.ref (n0 + 113), .int t] (κ, μ, o) (some (.int 0)) (κ, up μ 0 0 1, o) := by
  refine HM.of (by decide) (by simp [Value.category]) (by simp) (Or.inr (Or.inl ⟨_, .int, rfl, rfl, rfl⟩)) ?_
  intro pp ee ss mm aa bb me cd Q C K hret
  show ZZ pp l ee (rmk 0 0) ss mm aa bb me cd D n0 127 2 0 0 Q _ 0 [some (.ref (n0 + 113)), some (.int t)] []
  refine z_aload_n C rfl dX5_told_0 ?_
  refine z_iload_n C rfl dX5_told_1 ?_
  refine z_if_lt (tgt := 11) C dX5_told_2 (by decide) (fun h_2 => ?_) (fun h_2 => ?_)
  · skip
    refine z_iconst (v := 1) C (by decide +kernel) dX5_told_11 ?_
    refine z_goto (tgt := 16) C dX5_told_12 (by decide) ?_
    refine pf_X5_51 (x := 1) C dX5_told_16 ?_
    refine z_iload_n C rfl dX5_told_19 ?_
    refine z_tableOut (tgt := 190) C dX5_told_20 (hb.imp (fun q => by have h := Int32.lt_iff_toInt_lt.mp q; rwa [show (0 : Int32).toInt = 0 by decide +kernel] at h) (fun q => by have h := Int32.lt_iff_toInt_lt.mp q; rwa [show (13 : Int32).toInt = 13 by decide +kernel] at h)) (by decide) ?_
    refine z_iconst (v := 0) C (by decide +kernel) dX5_told_190 ?_
    exact z_endI (hret _ _ dX5_told_191) rfl rfl
  · skip
    refine z_iload_n C rfl dX5_told_5 ?_
    refine z_bipush (v := 13) C (by decide +kernel) dX5_told_6 ?_
    refine z_icmp_le (tgt := 15) C dX5_told_8 (by decide) (fun h_8 => ?_) (fun h_8 => ?_)
    · exact absurd hb (fun q => q.elim h_2 (Int32.not_lt.mpr h_8))
    · skip
      refine z_iconst (v := 1) C (by decide +kernel) dX5_told_11 ?_
      refine z_goto (tgt := 16) C dX5_told_12 (by decide) ?_
      refine pf_X5_51 (x := 1) C dX5_told_16 ?_
      refine z_iload_n C rfl dX5_told_19 ?_
      refine z_tableOut (tgt := 190) C dX5_told_20 (hb.imp (fun q => by have h := Int32.lt_iff_toInt_lt.mp q; rwa [show (0 : Int32).toInt = 0 by decide +kernel] at h) (fun q => by have h := Int32.lt_iff_toInt_lt.mp q; rwa [show (13 : Int32).toInt = 13 by decide +kernel] at h)) (by decide) ?_
      refine z_iconst (v := 0) C (by decide +kernel) dX5_told_190 ?_
      exact z_endI (hret _ _ dX5_told_191) rfl rfl
