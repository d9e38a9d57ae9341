/-! making, snapping, dropping, copying states -/
def mMk1 (j p : Nat) (m : KH) : KH := up m 6 (40 * j + p) (-1)
def mMk0 (y : KH) (j : Nat) (s b : Int32) : KH := up (up (up (up (up y 1 j 1) 2 j s) 3 j b) 4 j (-1)) 5 j (-1)
def mMake (y : KH) (j : Nat) (s b : Int32) : KH := iterK (mMk1 j) 40 (mMk0 y j s b)
def mSnap (y : KH) (i j : Nat) : KH := up (mCpV y (16 * 0 + i) (16 * 0 + j)) 5 j (nI i)
/-- those that wait for a volume go: f to look at from the k-th on -/
def mDq (v : Nat) : Nat → Nat → KH → KH
  | 0, _, x => x
  | f + 1, k, x => if x 10 k = nI v then mDq v f k (mUnq (up x 0 21 (x 0 21 + 1)) (k + f) k) else mDq v f (k + 1) x
def mB (μ : KH) : Prop := ∀ i, is01 (μ 1 i) ∧ is01 (μ 3 i)
theorem mCpM_oth (a b : Nat) (μ : KH) (c : Nat) (hc : c ≠ 6) : ∀ k, iterK (mCpM a b) k μ c = μ c
  | 0 => rfl
  | k + 1 => by
    show mCpM a b k (iterK (mCpM a b) k μ) c = _
    rw [← mCpM_oth a b μ c hc k]
    exact up_cell hc
theorem mCpV_1 (μ : KH) (a b i : Nat) : mCpV μ a b 1 i = if i = b then μ 1 a else μ 1 i := by
  unfold mCpV
  rw [mCpM_oth a b _ 1 (by decide), up_cell (by decide), up_cell (by decide), up_cell (by decide)]
  by_cases h : i = b
  · subst h; rw [if_pos rfl]; exact up_self
  · rw [if_neg h]; exact up_ix h
theorem mCpV_3 (μ : KH) (a b i : Nat) : mCpV μ a b 3 i = if i = b then μ 3 a else μ 3 i := by
  unfold mCpV
  rw [mCpM_oth a b _ 3 (by decide), up_cell (by decide)]
  by_cases h : i = b
  · subst h
    rw [if_pos rfl, up_self]
    try simp [up]
  · rw [if_neg h, up_ix h]
    try simp [up]
theorem mB_cpV {μ : KH} (h : mB μ) (a b : Nat) : mB (mCpV μ a b) := fun i => by
  rw [mCpV_1, mCpV_3]
  constructor
  · split
    · exact (h a).1
    · exact (h i).1
  · split
    · exact (h a).2
    · exact (h i).2
theorem mB_cp1 {μ : KH} (h : mB μ) (s t v : Nat) : mB (mCp1 s t v μ) := fun i => by
  unfold mCp1
  rw [up_cell (by decide), up_cell (by decide)]
  exact mB_cpV h _ _ i
theorem mB_it {μ : KH} (h : mB μ) (s t : Nat) : ∀ k, mB (iterK (mCp1 s t) k μ)
  | 0 => h
  | k + 1 => mB_cp1 (mB_it h s t k) s t k
theorem mB_up0 {μ : KH} {i : Nat} {x : Int32} (h : mB μ) : mB (up μ 0 i x) := fun k => by
  rw [up_cell (by decide), up_cell (by decide)]; exact h k
theorem mB_cp {μ : KH} (h : mB μ) (s t : Nat) : mB (mCp μ s t) := fun k => by
  unfold mCp
  rw [up_cell (by decide), up_cell (by decide)]; exact mB_it h s t 16 k
theorem vSiz_of {s : Int32} (h : vSiz s = true) : ∃ t : Nat, 1 ≤ t ∧ t ≤ 40 ∧ s = nI t := by
  simp only [vSiz, Bool.and_eq_true, Bool.not_eq_true', decide_eq_false_iff_not] at h
  have h1 : (1 : Int32) ≤ s := Int32.not_lt.mp h.1
  have h0 : ¬ s < 0 := fun q => by
    have h2 := Int32.lt_of_le_of_lt h1 q
    exact absurd h2 (by decide +kernel)
  obtain ⟨k, hk, rfl⟩ := nI_of h0
  refine ⟨k, ?_, ?_, rfl⟩
  · exact (nI_leI (a := 1) (by decide) hk).mp h1
  · exact Nat.not_lt.mp fun q => h.2 (nI_lt (a := 40) (b := k) q hk)
def okV1 (μ : KH) (v : Int32) : Prop := ∃ j : Nat, j < 16 ∧ v = nI j ∧ μ 1 j ≠ 0
def okD (μ : KH) (v a n : Int32) : Prop := ∃ j p c z : Nat, j < 16 ∧ v = nI j ∧ μ 1 j ≠ 0 ∧ z ≤ 40 ∧ μ 2 j = nI z ∧ a = nI p ∧ n = nI c ∧ p + c ≤ z
theorem b_ne {x : Int32} (h : (!decide (x = 0)) = true) : x ≠ 0 := by simpa using h
theorem b_eq {x : Int32} (h : (!decide (x = 0)) = false) : x = 0 := by simpa using h
def mLast (y : KH) (j : Nat) : Nat → Int32
  | 0 => -1
  | p + 1 => if y 6 (40 * j + p) = -1 then mLast y j p else nI p
def mNs1 (y : KH) (j p : Nat) : Nat := if y 6 (40 * j + p) = -1 then 0 else if mSole y (y 6 (40 * j + p)) = true then 0 else 1
def mQv1 (y : KH) (j k : Nat) : Nat := if y 10 k = nI j then 1 else 0
def mSort (y : KH) (a b p : Nat) : Int32 := if y 6 (40 * a + p) = -1 then (if y 6 (40 * b + p) = -1 then -1 else 3) else if y 6 (40 * b + p) = -1 then 2 else if y 6 (40 * a + p) = y 6 (40 * b + p) then 0 else 1
def mDf1 (y : KH) (a b : Nat) (t : Int32) (p : Nat) : Nat := if mSort y a b p = t then 1 else 0
def mRn1 (y : KH) (a b p : Nat) : Nat := if mSort y a b p = -1 then 0 else if p = 0 then 1 else if mSort y a b (p - 1) = mSort y a b p then 0 else 1
def mTick (y : KH) (s : Int32) : KH × Int32 :=
  if y 0 16 = 1 then
    (if y 0 19 + s < y 0 18 then (up (up y 0 20 (y 0 20 + s)) 0 19 (y 0 19 + s), 0)
     else (up (up (up (up (up y 0 20 (y 0 20 + s)) 0 19 (y 0 19 + s)) 0 21 (y 0 21 + y 0 23)) 0 23 0) 0 16 2, y 0 23))
  else (up (up y 0 20 (y 0 20 + s)) 0 19 (y 0 19 + 0), 0)
theorem okD_of {μ : KH} {j : Nat} {a n : Int32} (hj : j < 16) (h1 : (!decide (μ 1 j = 0)) = true) (h2 : ¬ a < 0) (h3 : ¬ n < 0) (h4 : ¬ μ 2 j < a) (h5 : n ≤ μ 2 j - a) (hsz : ∀ i, i < 16 → μ 1 i ≠ 0 → ∃ z : Nat, z ≤ 40 ∧ μ 2 i = nI z) : okD μ (nI j) a n := by
  obtain ⟨z, hz, h6⟩ := hsz j hj (b_ne h1)
  obtain ⟨p, hp, rfl⟩ := nI_of h2
  obtain ⟨c, hc, rfl⟩ := nI_of h3
  rw [h6] at h4 h5
  have hpz : p ≤ z := cv_nlt (by omega) hp h4
  rw [cv_sub hpz] at h5
  have := (nI_leI hc (by omega)).mp h5
  exact ⟨j, p, c, z, hj, rfl, b_ne h1, hz, h6, rfl, rfl, by omega⟩
set_option maxHeartbeats 4000000 in
set_option maxRecDepth 100000 in
theorem c_X5_copy (l : Launch) (D : DD) (n0 : Nat) (κ μ : KH) (o : Int64) (s t : Nat) (hs : s < 3) (ht : t < 3) (hB : mB μ) : HM l D n0 yX5_copy cX5_copy 4 none 1 27 [.ref (n0 + 113), .int (nI s), .int (nI t)] (κ, μ, o) none (κ, mCp μ s t, o) := by
  refine HM.of (by decide) (by simp [Value.category]) (by simp) (Or.inl ⟨rfl, rfl⟩) ?_
  intro pp ee ss mm aa bb me cd Q C K hret
  show ZZ pp l ee (rmk 1 27) ss mm aa bb me cd D n0 127 4 0 0 Q _ 0 [some (.ref (n0 + 113)), some (.int (nI s)), some (.int (nI t)), none] []
  refine z_iconst (v := 0) C (by decide +kernel) dX5_copy_0 ?_
  refine z_istore_n (ls' := [some (.ref (n0 + 113)), some (.int (nI s)), some (.int (nI t)), some (.int 0)]) C (by decide) rfl dX5_copy_1 ?_
  refine z_cast (σ1 := (κ, iterK (mCp1 s t) 0 μ, o)) (ls' := [some (.ref (n0 + 113)), some (.int (nI s)), some (.int (nI t)), some (.int (nI 0))]) (st' := []) (z_for (P := fun i => ZZ pp l ee (rmk 1 27) ss mm aa bb me cd D n0 127 4 0 0 Q (κ, iterK (mCp1 s t) i μ, o) 2 [some (.ref (n0 + 113)), some (.int (nI s)), some (.int (nI t)), some (.int (nI i))] []) (16) ?_ ?_ 0 (Nat.zero_le _)) rfl ⟨rfl, rfl, rfl, rfl, trivial⟩ rfl
  · skip
    refine z_iload_n C rfl dX5_copy_2 ?_
    refine z_bipush (v := 16) C (by decide +kernel) dX5_copy_3 ?_
    refine z_icmp_ge (tgt := 44) C dX5_copy_5 (by decide) (fun h_5 => ?_) (fun h_5 => ?_)
    · have g_5 := cv_le (a := 16) (b := 16) (by omega) (by omega) h_5
      refine z_aload_n C rfl dX5_copy_44 ?_
      refine gf_X5_29 C dX5_copy_45 ?_
      refine z_iload_n C rfl dX5_copy_48 ?_
      refine z_aload_n C rfl dX5_copy_49 ?_
      refine gf_X5_29 C dX5_copy_50 ?_
      refine z_iload_n C rfl dX5_copy_53 ?_
      refine al_120 (v := iterK (mCp1 s t) 16 μ 7 s) C (s) rfl (by omega) rfl dX5_copy_54 ?_
      refine as_120 (x := iterK (mCp1 s t) 16 μ 7 s) C (t) rfl (by omega) dX5_copy_55 ?_
      exact z_endV (hret _ _ dX5_copy_56) rfl
    · have g_5 := cv_nle (a := 16) (b := 16) (by omega) (by omega) h_5
      exact absurd g_5 (by omega)
  · intro i hi_2 ih_2
    refine z_iload_n C rfl dX5_copy_2 ?_
    refine z_bipush (v := 16) C (by decide +kernel) dX5_copy_3 ?_
    refine z_icmp_ge (tgt := 44) C dX5_copy_5 (by decide) (fun h_5 => ?_) (fun h_5 => ?_)
    · have g_5 := cv_le (a := 16) (b := i) (by omega) (by omega) h_5
      exact absurd hi_2 (by omega)
    · have g_5 := cv_nle (a := 16) (b := i) (by omega) (by omega) h_5
      refine z_aload_n C rfl dX5_copy_8 ?_
      refine z_iload_n C rfl dX5_copy_9 ?_
      refine z_iload_n C rfl dX5_copy_10 ?_
      refine z_iload_n C rfl dX5_copy_11 ?_
      refine z_iload_n C rfl dX5_copy_12 ?_
      refine z_callV (As := [.int (nI s), .int (nI i), .int (nI t), .int (nI i)]) (r := none) (σ1 := (κ, mCpV (iterK (mCp1 s t) i μ) (16 * s + i) (16 * t + i), o)) (st := []) (st1 := []) C K ok_X5_69 (c_X5_copyVolume l D n0 κ (iterK (mCp1 s t) i μ) o s i t i (by omega) (by omega) (by omega) (by omega) (mB_it hB s t i _).1 (mB_it hB s t i _).2) enc_M (by decide) rfl rfl ⟨by decide, by decide⟩ ⟨Nat.zero_le _, Nat.zero_le _⟩ (by simp [Value.category]) dX5_copy_13 rfl rfl ?_
      refine z_aload_n C rfl dX5_copy_16 ?_
      refine gf_X5_23 C dX5_copy_17 ?_
      refine z_bipush (v := 16) C (by decide +kernel) dX5_copy_20 ?_
      refine z_iload_n C rfl dX5_copy_22 ?_
      refine z_imul (v := nI (16 * t)) C (cv_mul 16 t) dX5_copy_23 ?_
      refine z_iload_n C rfl dX5_copy_24 ?_
      refine z_iadd (v := nI (16 * t + i)) C (cv_add (16 * t) i) dX5_copy_25 ?_
      refine z_aload_n C rfl dX5_copy_26 ?_
      refine gf_X5_23 C dX5_copy_27 ?_
      refine z_bipush (v := 16) C (by decide +kernel) dX5_copy_30 ?_
      refine z_iload_n C rfl dX5_copy_32 ?_
      refine z_imul (v := nI (16 * s)) C (cv_mul 16 s) dX5_copy_33 ?_
      refine z_iload_n C rfl dX5_copy_34 ?_
      refine z_iadd (v := nI (16 * s + i)) C (cv_add (16 * s) i) dX5_copy_35 ?_
      refine al_118 (v := mCpV (iterK (mCp1 s t) i μ) (16 * s + i) (16 * t + i) 5 (16 * s + i)) C (16 * s + i) rfl (by omega) rfl dX5_copy_36 ?_
      refine as_118 (x := mCpV (iterK (mCp1 s t) i μ) (16 * s + i) (16 * t + i) 5 (16 * s + i)) C (16 * t + i) rfl (by omega) dX5_copy_37 ?_
      refine z_iinc (v := nI (i + 1)) (ls' := [some (.ref (n0 + 113)), some (.int (nI s)), some (.int (nI t)), some (.int (nI (i + 1)))]) C rfl (cv_inc i 1) (by decide) rfl dX5_copy_38 ?_
      refine z_goto (tgt := 2) C dX5_copy_41 (by decide) ?_
      exact z_cast (σ1 := (κ, iterK (mCp1 s t) (i + 1) μ, o)) (ls' := [some (.ref (n0 + 113)), some (.int (nI s)), some (.int (nI t)), some (.int (nI (i + 1)))]) (st' := []) (ih_2) rfl ⟨rfl, rfl, rfl, rfl, trivial⟩ rfl
set_option maxHeartbeats 4000000 in
set_option maxRecDepth 100000 in
theorem c_X5_make_1 (l : Launch) (D : DD) (n0 : Nat) (κ μ : KH) (o : Int64) (v s b : Int32) (hv : vNum v = false) : HM l D n0 yX5_make cX5_make 5 (some .int) 1 20 [.ref (n0 + 113), .int v, .int s, .int b] (κ, μ, o) (some (.int 0)) (κ, up μ 0 0 1, o) := by
  refine HM.of (by decide) (by simp [Value.category]) (by simp) (Or.inr (Or.inl ⟨_, .int, rfl, rfl, rfl⟩)) ?_
  intro pp ee ss mm aa bb me cd Q C K hret
  show ZZ pp l ee (rmk 1 20) ss mm aa bb me cd D n0 127 5 0 0 Q _ 0 [some (.ref (n0 + 113)), some (.int v), some (.int s), some (.int b), none] []
  refine z_aload_n C rfl dX5_make_0 ?_
  refine z_iload_n C rfl dX5_make_1 ?_
  refine z_callS (As := [.int v]) (r := (some (.int (b2i (vNum v))))) (σ1 := (κ, μ, o)) (st := [.ref (n0 + 113)]) (st1 := [.int (b2i (vNum v)), .ref (n0 + 113)]) C K ok_X5_54 (c_X5_isNumber l D n0 κ μ o v) rfl ⟨by decide, by decide⟩ ⟨Nat.zero_le _, Nat.zero_le _⟩ (by simp [Value.category]) dX5_make_2 rfl rfl ?_
  refine z_if_ne (tgt := 12) C dX5_make_5 (by decide) (fun h_5 => ?_) (fun h_5 => ?_)
  · have g_5 := cv_b1 h_5
    exact absurd g_5 (by rw [hv]; decide)
  · have g_5 := cv_b0 h_5
    refine z_iconst (v := 1) C (by decide +kernel) dX5_make_8 ?_
    refine z_goto (tgt := 37) C dX5_make_9 (by decide) ?_
    refine pf_X5_51 (x := 1) C dX5_make_37 ?_
    refine z_aload_n C rfl dX5_make_40 ?_
    refine gf_X5_51 (v := 1) C rfl dX5_make_41 ?_
    refine z_if_le (tgt := 49) C dX5_make_44 (by decide) (fun h_44 => ?_) (fun h_44 => ?_)
    · exact absurd h_44 (by decide +kernel)
    · skip
      refine z_iconst (v := 0) C (by decide +kernel) dX5_make_47 ?_
      exact z_endI (hret _ _ dX5_make_48) rfl rfl
set_option maxHeartbeats 4000000 in
set_option maxRecDepth 100000 in
theorem c_X5_make_2 (l : Launch) (D : DD) (n0 : Nat) (κ μ : KH) (o : Int64) (v s b : Int32) (hv : vNum v = true) (hs : vSiz s = false) : HM l D n0 yX5_make cX5_make 5 (some .int) 1 20 [.ref (n0 + 113), .int v, .int s, .int b] (κ, μ, o) (some (.int 0)) (κ, up μ 0 0 2, o) := by
  refine HM.of (by decide) (by simp [Value.category]) (by simp) (Or.inr (Or.inl ⟨_, .int, rfl, rfl, rfl⟩)) ?_
  intro pp ee ss mm aa bb me cd Q C K hret
  show ZZ pp l ee (rmk 1 20) ss mm aa bb me cd D n0 127 5 0 0 Q _ 0 [some (.ref (n0 + 113)), some (.int v), some (.int s), some (.int b), none] []
  refine z_aload_n C rfl dX5_make_0 ?_
  refine z_iload_n C rfl dX5_make_1 ?_
  refine z_callS (As := [.int v]) (r := (some (.int (b2i (vNum v))))) (σ1 := (κ, μ, o)) (st := [.ref (n0 + 113)]) (st1 := [.int (b2i (vNum v)), .ref (n0 + 113)]) C K ok_X5_54 (c_X5_isNumber l D n0 κ μ o v) rfl ⟨by decide, by decide⟩ ⟨Nat.zero_le _, Nat.zero_le _⟩ (by simp [Value.category]) dX5_make_2 rfl rfl ?_
  refine z_if_ne (tgt := 12) C dX5_make_5 (by decide) (fun h_5 => ?_) (fun h_5 => ?_)
  · have g_5 := cv_b1 h_5
    refine z_iload_n C rfl dX5_make_12 ?_
    refine z_callS (As := [.int s]) (r := (some (.int (b2i (vSiz s))))) (σ1 := (κ, μ, o)) (st := [.ref (n0 + 113)]) (st1 := [.int (b2i (vSiz s)), .ref (n0 + 113)]) C K ok_X5_144 (c_X5_isSize l D n0 κ μ o s) rfl ⟨by decide, by decide⟩ ⟨Nat.zero_le _, Nat.zero_le _⟩ (by simp [Value.category]) dX5_make_13 rfl rfl ?_
    refine z_if_ne (tgt := 23) C dX5_make_16 (by decide) (fun h_16 => ?_) (fun h_16 => ?_)
    · have g_16 := cv_b1 h_16
      exact absurd g_16 (by rw [hs]; decide)
    · have g_16 := cv_b0 h_16
      refine z_iconst (v := 2) C (by decide +kernel) dX5_make_19 ?_
      refine z_goto (tgt := 37) C dX5_make_20 (by decide) ?_
      refine pf_X5_51 (x := 2) C dX5_make_37 ?_
      refine z_aload_n C rfl dX5_make_40 ?_
      refine gf_X5_51 (v := 2) C rfl dX5_make_41 ?_
      refine z_if_le (tgt := 49) C dX5_make_44 (by decide) (fun h_44 => ?_) (fun h_44 => ?_)
      · exact absurd h_44 (by decide +kernel)
      · skip
        refine z_iconst (v := 0) C (by decide +kernel) dX5_make_47 ?_
        exact z_endI (hret _ _ dX5_make_48) rfl rfl
  · have g_5 := cv_b0 h_5
    exact absurd g_5 (by rw [hv]; decide)
set_option maxHeartbeats 4000000 in
set_option maxRecDepth 100000 in
theorem c_X5_make_3 (l : Launch) (D : DD) (n0 : Nat) (κ μ : KH) (o : Int64) (j : Nat) (s b : Int32) (hj : j < 16) (hs : vSiz s = true) (h1 : μ 1 j ≠ 0) : HM l D n0 yX5_make cX5_make 5 (some .int) 1 20 [.ref (n0 + 113), .int (nI j), .int s, .int b] (κ, μ, o) (some (.int 0)) (κ, up μ 0 0 3, o) := by
  refine HM.of (by decide) (by simp [Value.category]) (by simp) (Or.inr (Or.inl ⟨_, .int, rfl, rfl, rfl⟩)) ?_
  intro pp ee ss mm aa bb me cd Q C K hret
  show ZZ pp l ee (rmk 1 20) ss mm aa bb me cd D n0 127 5 0 0 Q _ 0 [some (.ref (n0 + 113)), some (.int (nI j)), some (.int s), some (.int b), none] []
  refine z_aload_n C rfl dX5_make_0 ?_
  refine z_iload_n C rfl dX5_make_1 ?_
  refine z_callS (As := [.int (nI j)]) (r := (some (.int (b2i (vNum (nI j)))))) (σ1 := (κ, μ, o)) (st := [.ref (n0 + 113)]) (st1 := [.int (b2i (vNum (nI j))), .ref (n0 + 113)]) C K ok_X5_54 (c_X5_isNumber l D n0 κ μ o (nI j)) rfl ⟨by decide, by decide⟩ ⟨Nat.zero_le _, Nat.zero_le _⟩ (by simp [Value.category]) dX5_make_2 rfl rfl ?_
  refine z_if_ne (tgt := 12) C dX5_make_5 (by decide) (fun h_5 => ?_) (fun h_5 => ?_)
  · have g_5 := cv_b1 h_5
    refine z_iload_n C rfl dX5_make_12 ?_
    refine z_callS (As := [.int s]) (r := (some (.int (b2i (vSiz s))))) (σ1 := (κ, μ, o)) (st := [.ref (n0 + 113)]) (st1 := [.int (b2i (vSiz s)), .ref (n0 + 113)]) C K ok_X5_144 (c_X5_isSize l D n0 κ μ o s) rfl ⟨by decide, by decide⟩ ⟨Nat.zero_le _, Nat.zero_le _⟩ (by simp [Value.category]) dX5_make_13 rfl rfl ?_
    refine z_if_ne (tgt := 23) C dX5_make_16 (by decide) (fun h_16 => ?_) (fun h_16 => ?_)
    · have g_16 := cv_b1 h_16
      refine z_aload_n C rfl dX5_make_23 ?_
      refine gf_X5_7 C dX5_make_24 ?_
      refine z_iload_n C rfl dX5_make_27 ?_
      refine al_114 (v := μ 1 j) C (j) rfl (by omega) rfl dX5_make_28 ?_
      refine z_if_eq (tgt := 36) C dX5_make_29 (by decide) (fun h_29 => ?_) (fun h_29 => ?_)
      · exact absurd h_29 h1
      · skip
        refine z_iconst (v := 3) C (by decide +kernel) dX5_make_32 ?_
        refine z_goto (tgt := 37) C dX5_make_33 (by decide) ?_
        refine pf_X5_51 (x := 3) C dX5_make_37 ?_
        refine z_aload_n C rfl dX5_make_40 ?_
        refine gf_X5_51 (v := 3) C rfl dX5_make_41 ?_
        refine z_if_le (tgt := 49) C dX5_make_44 (by decide) (fun h_44 => ?_) (fun h_44 => ?_)
        · exact absurd h_44 (by decide +kernel)
        · skip
          refine z_iconst (v := 0) C (by decide +kernel) dX5_make_47 ?_
          exact z_endI (hret _ _ dX5_make_48) rfl rfl
    · have g_16 := cv_b0 h_16
      exact absurd g_16 (by rw [hs]; decide)
  · have g_5 := cv_b0 h_5
    exact absurd g_5 (by rw [vNum_nI hj]; decide)
set_option maxHeartbeats 4000000 in
set_option maxRecDepth 100000 in
theorem c_X5_make (l : Launch) (D : DD) (n0 : Nat) (κ μ : KH) (o : Int64) (j : Nat) (s b : Int32) (hj : j < 16) (hs : vSiz s = true) (hb : b = 0 ∨ b = 1) (h1 : μ 1 j = 0) (y : KH) (hy : y = up μ 0 0 0) : HM l D n0 yX5_make cX5_make 5 (some .int) 1 23 [.ref (n0 + 113), .int (nI j), .int s, .int b] (κ, μ, o) (some (.int (nI (mVol (mMake y j s b) 0)))) (κ, mMake y j s b, o) := by
  refine HM.of (by decide) (by simp [Value.category]) (by simp) (Or.inr (Or.inl ⟨_, .int, rfl, rfl, rfl⟩)) ?_
  intro pp ee ss mm aa bb me cd Q C K hret
  show ZZ pp l ee (rmk 1 23) ss mm aa bb me cd D n0 127 5 0 0 Q _ 0 [some (.ref (n0 + 113)), some (.int (nI j)), some (.int s), some (.int b), none] []
  refine z_aload_n C rfl dX5_make_0 ?_
  refine z_iload_n C rfl dX5_make_1 ?_
  refine z_callS (As := [.int (nI j)]) (r := (some (.int (b2i (vNum (nI j)))))) (σ1 := (κ, μ, o)) (st := [.ref (n0 + 113)]) (st1 := [.int (b2i (vNum (nI j))), .ref (n0 + 113)]) C K ok_X5_54 (c_X5_isNumber l D n0 κ μ o (nI j)) rfl ⟨by decide, by decide⟩ ⟨Nat.zero_le _, Nat.zero_le _⟩ (by simp [Value.category]) dX5_make_2 rfl rfl ?_
  refine z_if_ne (tgt := 12) C dX5_make_5 (by decide) (fun h_5 => ?_) (fun h_5 => ?_)
  · have g_5 := cv_b1 h_5
    refine z_iload_n C rfl dX5_make_12 ?_
    refine z_callS (As := [.int s]) (r := (some (.int (b2i (vSiz s))))) (σ1 := (κ, μ, o)) (st := [.ref (n0 + 113)]) (st1 := [.int (b2i (vSiz s)), .ref (n0 + 113)]) C K ok_X5_144 (c_X5_isSize l D n0 κ μ o s) rfl ⟨by decide, by decide⟩ ⟨Nat.zero_le _, Nat.zero_le _⟩ (by simp [Value.category]) dX5_make_13 rfl rfl ?_
    refine z_if_ne (tgt := 23) C dX5_make_16 (by decide) (fun h_16 => ?_) (fun h_16 => ?_)
    · have g_16 := cv_b1 h_16
      refine z_aload_n C rfl dX5_make_23 ?_
      refine gf_X5_7 C dX5_make_24 ?_
      refine z_iload_n C rfl dX5_make_27 ?_
      refine al_114 (v := μ 1 j) C (j) rfl (by omega) rfl dX5_make_28 ?_
      refine z_if_eq (tgt := 36) C dX5_make_29 (by decide) (fun h_29 => ?_) (fun h_29 => ?_)
      · skip
        refine z_iconst (v := 0) C (by decide +kernel) dX5_make_36 ?_
        refine pf_X5_51 (x := 0) C dX5_make_37 ?_
        rw [← hy]
        refine z_aload_n C rfl dX5_make_40 ?_
        refine gf_X5_51 (v := 0) C (by rw [hy]; exact up_self) dX5_make_41 ?_
        refine z_if_le (tgt := 49) C dX5_make_44 (by decide) (fun h_44 => ?_) (fun h_44 => ?_)
        · skip
          refine z_aload_n C rfl dX5_make_49 ?_
          refine gf_X5_7 C dX5_make_50 ?_
          refine z_iload_n C rfl dX5_make_53 ?_
          refine z_iconst (v := 1) C (by decide +kernel) dX5_make_54 ?_
          refine as_114 (x := 1) C (j) (Or.inr rfl) rfl (by omega) dX5_make_55 ?_
          refine z_aload_n C rfl dX5_make_56 ?_
          refine gf_X5_13 C dX5_make_57 ?_
          refine z_iload_n C rfl dX5_make_60 ?_
          refine z_iload_n C rfl dX5_make_61 ?_
          refine as_115 (x := s) C (j) rfl (by omega) dX5_make_62 ?_
          refine z_aload_n C rfl dX5_make_63 ?_
          refine gf_X5_17 C dX5_make_64 ?_
          refine z_iload_n C rfl dX5_make_67 ?_
          refine z_iload_n C rfl dX5_make_68 ?_
          refine as_116 (x := b) C (j) hb rfl (by omega) dX5_make_69 ?_
          refine z_aload_n C rfl dX5_make_70 ?_
          refine gf_X5_20 C dX5_make_71 ?_
          refine z_iload_n C rfl dX5_make_74 ?_
          refine z_iconst (v := (-1)) C (by decide +kernel) dX5_make_75 ?_
          refine as_117 (x := (-1)) C (j) rfl (by omega) dX5_make_76 ?_
          refine z_aload_n C rfl dX5_make_77 ?_
          refine gf_X5_23 C dX5_make_78 ?_
          refine z_iload_n C rfl dX5_make_81 ?_
          refine z_iconst (v := (-1)) C (by decide +kernel) dX5_make_82 ?_
          refine as_118 (x := (-1)) C (j) rfl (by omega) dX5_make_83 ?_
          refine z_iconst (v := 0) C (by decide +kernel) dX5_make_84 ?_
          refine z_istore (ls' := [some (.ref (n0 + 113)), some (.int (nI j)), some (.int s), some (.int b), some (.int 0)]) C (by decide) rfl dX5_make_85 ?_
          refine z_cast (σ1 := (κ, iterK (mMk1 j) 0 (mMk0 y j s b), o)) (ls' := [some (.ref (n0 + 113)), some (.int (nI j)), some (.int s), some (.int b), some (.int (nI 0))]) (st' := []) (z_for (P := fun i => ZZ pp l ee (rmk 1 23) ss mm aa bb me cd D n0 127 5 0 0 Q (κ, iterK (mMk1 j) i (mMk0 y j s b), o) 87 [some (.ref (n0 + 113)), some (.int (nI j)), some (.int s), some (.int b), some (.int (nI i))] []) (40) ?_ ?_ 0 (Nat.zero_le _)) rfl ⟨rfl, rfl, rfl, rfl, rfl, trivial⟩ rfl
          · skip
            refine z_iload C rfl dX5_make_87 ?_
            refine z_bipush (v := 40) C (by decide +kernel) dX5_make_89 ?_
            refine z_icmp_ge (tgt := 113) C dX5_make_91 (by decide) (fun h_91 => ?_) (fun h_91 => ?_)
            · have g_91 := cv_le (a := 40) (b := 40) (by omega) (by omega) h_91
              refine z_aload_n C rfl dX5_make_113 ?_
              refine z_iconst (v := 0) C (by decide +kernel) dX5_make_114 ?_
              refine z_callV (As := [.int 0]) (r := (some (.int (nI (mVol (iterK (mMk1 j) 40 (mMk0 y j s b)) 0))))) (σ1 := (κ, iterK (mMk1 j) 40 (mMk0 y j s b), o)) (st := []) (st1 := [.int (nI (mVol (iterK (mMk1 j) 40 (mMk0 y j s b)) 0))]) C K ok_X5_147 (c_X5_volumes l D n0 κ (iterK (mMk1 j) 40 (mMk0 y j s b)) o 0 (by omega)) enc_M (by decide) rfl rfl ⟨by decide, by decide⟩ ⟨Nat.zero_le _, Nat.zero_le _⟩ (by simp [Value.category]) dX5_make_115 rfl rfl ?_
              exact z_endI (hret _ _ dX5_make_118) rfl rfl
            · have g_91 := cv_nle (a := 40) (b := 40) (by omega) (by omega) h_91
              exact absurd g_91 (by omega)
          · intro i hi_87 ih_87
            refine z_iload C rfl dX5_make_87 ?_
            refine z_bipush (v := 40) C (by decide +kernel) dX5_make_89 ?_
            refine z_icmp_ge (tgt := 113) C dX5_make_91 (by decide) (fun h_91 => ?_) (fun h_91 => ?_)
            · have g_91 := cv_le (a := 40) (b := i) (by omega) (by omega) h_91
              exact absurd hi_87 (by omega)
            · have g_91 := cv_nle (a := 40) (b := i) (by omega) (by omega) h_91
              refine z_aload_n C rfl dX5_make_94 ?_
              refine gf_X5_26 C dX5_make_95 ?_
              refine z_iconst (v := 0) C (by decide +kernel) dX5_make_98 ?_
              refine z_iload_n C rfl dX5_make_99 ?_
              refine z_iload C rfl dX5_make_100 ?_
              refine z_callS (As := [.int 0, .int (nI j), .int (nI i)]) (r := (some (.int (nI (40 * j + i))))) (σ1 := (κ, iterK (mMk1 j) i (mMk0 y j s b), o)) (st := [.ref (n0 + 119)]) (st1 := [.int (nI (40 * j + i)), .ref (n0 + 119)]) C K ok_X5_58 (c_X5_at0 l D n0 κ (iterK (mMk1 j) i (mMk0 y j s b)) o j i) rfl ⟨by decide, by decide⟩ ⟨Nat.zero_le _, Nat.zero_le _⟩ (by simp [Value.category]) dX5_make_102 rfl rfl ?_
              refine z_iconst (v := (-1)) C (by decide +kernel) dX5_make_105 ?_
              refine as_119 (x := (-1)) C (40 * j + i) rfl (by omega) dX5_make_106 ?_
              refine z_iinc (v := nI (i + 1)) (ls' := [some (.ref (n0 + 113)), some (.int (nI j)), some (.int s), some (.int b), some (.int (nI (i + 1)))]) C rfl (cv_inc i 1) (by decide) rfl dX5_make_107 ?_
              refine z_goto (tgt := 87) C dX5_make_110 (by decide) ?_
              exact z_cast (σ1 := (κ, iterK (mMk1 j) (i + 1) (mMk0 y j s b), o)) (ls' := [some (.ref (n0 + 113)), some (.int (nI j)), some (.int s), some (.int b), some (.int (nI (i + 1)))]) (st' := []) (ih_87) rfl ⟨rfl, rfl, rfl, rfl, rfl, trivial⟩ rfl
        · exact absurd h_44 (by decide +kernel)
      · exact absurd h1 h_29
    · have g_16 := cv_b0 h_16
      exact absurd g_16 (by rw [hs]; decide)
  · have g_5 := cv_b0 h_5
    exact absurd g_5 (by rw [vNum_nI hj]; decide)
set_option maxHeartbeats 4000000 in
set_option maxRecDepth 100000 in
theorem c_X5_snap_1 (l : Launch) (D : DD) (n0 : Nat) (κ μ : KH) (o : Int64) (i v : Int32) (hb : ¬ (vNum v = true ∧ okV1 μ i)) : HM l D n0 yX5_snap cX5_snap 3 (some .int) 2 41 [.ref (n0 + 113), .int i, .int v] (κ, μ, o) (some (.int 0)) (κ, up μ 0 0 1, o) := by
  refine HM.of (by decide) (by simp [Value.category]) (by simp) (Or.inr (Or.inl ⟨_, .int, rfl, rfl, rfl⟩)) ?_
  intro pp ee ss mm aa bb me cd Q C K hret
  show ZZ pp l ee (rmk 2 41) ss mm aa bb me cd D n0 127 3 0 0 Q _ 0 [some (.ref (n0 + 113)), some (.int i), some (.int v)] []
  refine z_aload_n C rfl dX5_snap_0 ?_
  refine z_iload_n C rfl dX5_snap_1 ?_
  refine z_callS (As := [.int v]) (r := (some (.int (b2i (vNum v))))) (σ1 := (κ, μ, o)) (st := [.ref (n0 + 113)]) (st1 := [.int (b2i (vNum v)), .ref (n0 + 113)]) C K ok_X5_54 (c_X5_isNumber l D n0 κ μ o v) rfl ⟨by decide, by decide⟩ ⟨Nat.zero_le _, Nat.zero_le _⟩ (by simp [Value.category]) dX5_snap_2 rfl rfl ?_
  refine z_if_eq (tgt := 16) C dX5_snap_5 (by decide) (fun h_5 => ?_) (fun h_5 => ?_)
  · have g_5 := cv_b0 h_5
    refine z_iconst (v := 1) C (by decide +kernel) dX5_snap_16 ?_
    refine z_goto (tgt := 34) C dX5_snap_17 (by decide) ?_
    refine pf_X5_51 (x := 1) C dX5_snap_34 ?_
    refine z_aload_n C rfl dX5_snap_37 ?_
    refine gf_X5_51 (v := 1) C rfl dX5_snap_38 ?_
    refine z_if_le (tgt := 46) C dX5_snap_41 (by decide) (fun h_41 => ?_) (fun h_41 => ?_)
    · exact absurd h_41 (by decide +kernel)
    · skip
      refine z_iconst (v := 0) C (by decide +kernel) dX5_snap_44 ?_
      exact z_endI (hret _ _ dX5_snap_45) rfl rfl
  · have g_5 := cv_b1 h_5
    refine z_aload_n C rfl dX5_snap_8 ?_
    refine z_iload_n C rfl dX5_snap_9 ?_
    rcases vNum_or i with hv | ⟨j, hj, rfl⟩
    · skip
      refine z_callV (As := [.int i]) (r := (some (.int 0))) (σ1 := (κ, μ, o)) (st := [.ref (n0 + 113)]) (st1 := [.int 0, .ref (n0 + 113)]) C K ok_X5_126 (c_X5_isVolume_n l D n0 κ μ o i hv) enc_M (by decide) rfl rfl ⟨by decide, by decide⟩ ⟨Nat.zero_le _, Nat.zero_le _⟩ (by simp [Value.category]) dX5_snap_10 rfl rfl ?_
      refine z_if_ne (tgt := 20) C dX5_snap_13 (by decide) (fun h_13 => ?_) (fun h_13 => ?_)
      · exact absurd h_13 (by decide +kernel)
      · skip
        refine z_iconst (v := 1) C (by decide +kernel) dX5_snap_16 ?_
        refine z_goto (tgt := 34) C dX5_snap_17 (by decide) ?_
        refine pf_X5_51 (x := 1) C dX5_snap_34 ?_
        refine z_aload_n C rfl dX5_snap_37 ?_
        refine gf_X5_51 (v := 1) C rfl dX5_snap_38 ?_
        refine z_if_le (tgt := 46) C dX5_snap_41 (by decide) (fun h_41 => ?_) (fun h_41 => ?_)
        · exact absurd h_41 (by decide +kernel)
        · skip
          refine z_iconst (v := 0) C (by decide +kernel) dX5_snap_44 ?_
          exact z_endI (hret _ _ dX5_snap_45) rfl rfl
    · skip
      refine z_callV (As := [.int (nI j)]) (r := (some (.int (b2i (!decide (μ 1 j = 0)))))) (σ1 := (κ, μ, o)) (st := [.ref (n0 + 113)]) (st1 := [.int (b2i (!decide (μ 1 j = 0))), .ref (n0 + 113)]) C K ok_X5_126 (c_X5_isVolume l D n0 κ μ o j (by omega)) enc_M (by decide) rfl rfl ⟨by decide, by decide⟩ ⟨Nat.zero_le _, Nat.zero_le _⟩ (by simp [Value.category]) dX5_snap_10 rfl rfl ?_
      refine z_if_ne (tgt := 20) C dX5_snap_13 (by decide) (fun h_13 => ?_) (fun h_13 => ?_)
      · have g_13 := cv_b1 h_13
        exact absurd ⟨g_5, j, hj, rfl, b_ne g_13⟩ hb
      · have g_13 := cv_b0 h_13
        refine z_iconst (v := 1) C (by decide +kernel) dX5_snap_16 ?_
        refine z_goto (tgt := 34) C dX5_snap_17 (by decide) ?_
        refine pf_X5_51 (x := 1) C dX5_snap_34 ?_
        refine z_aload_n C rfl dX5_snap_37 ?_
        refine gf_X5_51 (v := 1) C rfl dX5_snap_38 ?_
        refine z_if_le (tgt := 46) C dX5_snap_41 (by decide) (fun h_41 => ?_) (fun h_41 => ?_)
        · exact absurd h_41 (by decide +kernel)
        · skip
          refine z_iconst (v := 0) C (by decide +kernel) dX5_snap_44 ?_
          exact z_endI (hret _ _ dX5_snap_45) rfl rfl
set_option maxHeartbeats 4000000 in
set_option maxRecDepth 100000 in
theorem c_X5_snap_2 (l : Launch) (D : DD) (n0 : Nat) (κ μ : KH) (o : Int64) (i j : Nat) (hi : i < 16) (hj : j < 16) (h1 : μ 1 i ≠ 0) (h2 : μ 1 j ≠ 0) : HM l D n0 yX5_snap cX5_snap 3 (some .int) 2 41 [.ref (n0 + 113), .int (nI i), .int (nI j)] (κ, μ, o) (some (.int 0)) (κ, up μ 0 0 2, o) := by
  refine HM.of (by decide) (by simp [Value.category]) (by simp) (Or.inr (Or.inl ⟨_, .int, rfl, rfl, rfl⟩)) ?_
  intro pp ee ss mm aa bb me cd Q C K hret
  show ZZ pp l ee (rmk 2 41) ss mm aa bb me cd D n0 127 3 0 0 Q _ 0 [some (.ref (n0 + 113)), some (.int (nI i)), some (.int (nI j))] []
  refine z_aload_n C rfl dX5_snap_0 ?_
  refine z_iload_n C rfl dX5_snap_1 ?_
  refine z_callS (As := [.int (nI j)]) (r := (some (.int (b2i (vNum (nI j)))))) (σ1 := (κ, μ, o)) (st := [.ref (n0 + 113)]) (st1 := [.int (b2i (vNum (nI j))), .ref (n0 + 113)]) C K ok_X5_54 (c_X5_isNumber l D n0 κ μ o (nI j)) rfl ⟨by decide, by decide⟩ ⟨Nat.zero_le _, Nat.zero_le _⟩ (by simp [Value.category]) dX5_snap_2 rfl rfl ?_
  refine z_if_eq (tgt := 16) C dX5_snap_5 (by decide) (fun h_5 => ?_) (fun h_5 => ?_)
  · have g_5 := cv_b0 h_5
    exact absurd g_5 (by rw [vNum_nI hj]; decide)
  · have g_5 := cv_b1 h_5
    refine z_aload_n C rfl dX5_snap_8 ?_
    refine z_iload_n C rfl dX5_snap_9 ?_
    refine z_callV (As := [.int (nI i)]) (r := (some (.int (b2i (!decide (μ 1 i = 0)))))) (σ1 := (κ, μ, o)) (st := [.ref (n0 + 113)]) (st1 := [.int (b2i (!decide (μ 1 i = 0))), .ref (n0 + 113)]) C K ok_X5_126 (c_X5_isVolume l D n0 κ μ o i (by omega)) enc_M (by decide) rfl rfl ⟨by decide, by decide⟩ ⟨Nat.zero_le _, Nat.zero_le _⟩ (by simp [Value.category]) dX5_snap_10 rfl rfl ?_
    refine z_if_ne (tgt := 20) C dX5_snap_13 (by decide) (fun h_13 => ?_) (fun h_13 => ?_)
    · have g_13 := cv_b1 h_13
      refine z_aload_n C rfl dX5_snap_20 ?_
      refine gf_X5_7 C dX5_snap_21 ?_
      refine z_iload_n C rfl dX5_snap_24 ?_
      refine al_114 (v := μ 1 j) C (j) rfl (by omega) rfl dX5_snap_25 ?_
      refine z_if_eq (tgt := 33) C dX5_snap_26 (by decide) (fun h_26 => ?_) (fun h_26 => ?_)
      · exact absurd h_26 h2
      · skip
        refine z_iconst (v := 2) C (by decide +kernel) dX5_snap_29 ?_
        refine z_goto (tgt := 34) C dX5_snap_30 (by decide) ?_
        refine pf_X5_51 (x := 2) C dX5_snap_34 ?_
        refine z_aload_n C rfl dX5_snap_37 ?_
        refine gf_X5_51 (v := 2) C rfl dX5_snap_38 ?_
        refine z_if_le (tgt := 46) C dX5_snap_41 (by decide) (fun h_41 => ?_) (fun h_41 => ?_)
        · exact absurd h_41 (by decide +kernel)
        · skip
          refine z_iconst (v := 0) C (by decide +kernel) dX5_snap_44 ?_
          exact z_endI (hret _ _ dX5_snap_45) rfl rfl
    · have g_13 := cv_b0 h_13
      exact absurd g_13 (by simp [h1])
set_option maxHeartbeats 4000000 in
set_option maxRecDepth 100000 in
theorem c_X5_snap (l : Launch) (D : DD) (n0 : Nat) (κ μ : KH) (o : Int64) (i j : Nat) (hi : i < 16) (hj : j < 16) (h1 : μ 1 i ≠ 0) (h2 : μ 1 j = 0) (y : KH) (hy : y = up μ 0 0 0) (hB : mB y) : HM l D n0 yX5_snap cX5_snap 3 (some .int) 2 45 [.ref (n0 + 113), .int (nI i), .int (nI j)] (κ, μ, o) (some (.int (nI (mMap (mSnap y i j) j)))) (κ, mSnap y i j, o) := by
  refine HM.of (by decide) (by simp [Value.category]) (by simp) (Or.inr (Or.inl ⟨_, .int, rfl, rfl, rfl⟩)) ?_
  intro pp ee ss mm aa bb me cd Q C K hret
  show ZZ pp l ee (rmk 2 45) ss mm aa bb me cd D n0 127 3 0 0 Q _ 0 [some (.ref (n0 + 113)), some (.int (nI i)), some (.int (nI j))] []
  refine z_aload_n C rfl dX5_snap_0 ?_
  refine z_iload_n C rfl dX5_snap_1 ?_
  refine z_callS (As := [.int (nI j)]) (r := (some (.int (b2i (vNum (nI j)))))) (σ1 := (κ, μ, o)) (st := [.ref (n0 + 113)]) (st1 := [.int (b2i (vNum (nI j))), .ref (n0 + 113)]) C K ok_X5_54 (c_X5_isNumber l D n0 κ μ o (nI j)) rfl ⟨by decide, by decide⟩ ⟨Nat.zero_le _, Nat.zero_le _⟩ (by simp [Value.category]) dX5_snap_2 rfl rfl ?_
  refine z_if_eq (tgt := 16) C dX5_snap_5 (by decide) (fun h_5 => ?_) (fun h_5 => ?_)
  · have g_5 := cv_b0 h_5
    exact absurd g_5 (by rw [vNum_nI hj]; decide)
  · have g_5 := cv_b1 h_5
    refine z_aload_n C rfl dX5_snap_8 ?_
    refine z_iload_n C rfl dX5_snap_9 ?_
    refine z_callV (As := [.int (nI i)]) (r := (some (.int (b2i (!decide (μ 1 i = 0)))))) (σ1 := (κ, μ, o)) (st := [.ref (n0 + 113)]) (st1 := [.int (b2i (!decide (μ 1 i = 0))), .ref (n0 + 113)]) C K ok_X5_126 (c_X5_isVolume l D n0 κ μ o i (by omega)) enc_M (by decide) rfl rfl ⟨by decide, by decide⟩ ⟨Nat.zero_le _, Nat.zero_le _⟩ (by simp [Value.category]) dX5_snap_10 rfl rfl ?_
    refine z_if_ne (tgt := 20) C dX5_snap_13 (by decide) (fun h_13 => ?_) (fun h_13 => ?_)
    · have g_13 := cv_b1 h_13
      refine z_aload_n C rfl dX5_snap_20 ?_
      refine gf_X5_7 C dX5_snap_21 ?_
      refine z_iload_n C rfl dX5_snap_24 ?_
      refine al_114 (v := μ 1 j) C (j) rfl (by omega) rfl dX5_snap_25 ?_
      refine z_if_eq (tgt := 33) C dX5_snap_26 (by decide) (fun h_26 => ?_) (fun h_26 => ?_)
      · skip
        refine z_iconst (v := 0) C (by decide +kernel) dX5_snap_33 ?_
        refine pf_X5_51 (x := 0) C dX5_snap_34 ?_
        rw [← hy]
        refine z_aload_n C rfl dX5_snap_37 ?_
        refine gf_X5_51 (v := 0) C (by rw [hy]; exact up_self) dX5_snap_38 ?_
        refine z_if_le (tgt := 46) C dX5_snap_41 (by decide) (fun h_41 => ?_) (fun h_41 => ?_)
        · skip
          refine z_aload_n C rfl dX5_snap_46 ?_
          refine z_iconst (v := 0) C (by decide +kernel) dX5_snap_47 ?_
          refine z_iload_n C rfl dX5_snap_48 ?_
          refine z_iconst (v := 0) C (by decide +kernel) dX5_snap_49 ?_
          refine z_iload_n C rfl dX5_snap_50 ?_
          refine z_callV (As := [.int 0, .int (nI i), .int 0, .int (nI j)]) (r := none) (σ1 := (κ, mCpV y (16 * 0 + i) (16 * 0 + j), o)) (st := []) (st1 := []) C K ok_X5_69 (c_X5_copyVolume l D n0 κ y o 0 i 0 j (by omega) (by omega) (by omega) (by omega) (hB _).1 (hB _).2) enc_M (by decide) rfl rfl ⟨by decide, by decide⟩ ⟨Nat.zero_le _, Nat.zero_le _⟩ (by simp [Value.category]) dX5_snap_51 rfl rfl ?_
          refine z_aload_n C rfl dX5_snap_54 ?_
          refine gf_X5_23 C dX5_snap_55 ?_
          refine z_iload_n C rfl dX5_snap_58 ?_
          refine z_iload_n C rfl dX5_snap_59 ?_
          refine as_118 (x := nI i) C (j) rfl (by omega) dX5_snap_60 ?_
          refine z_aload_n C rfl dX5_snap_61 ?_
          refine z_iload_n C rfl dX5_snap_62 ?_
          refine z_callV (As := [.int (nI j)]) (r := (some (.int (nI (mMap (up (mCpV y (16 * 0 + i) (16 * 0 + j)) 5 j (nI i)) j))))) (σ1 := (κ, up (mCpV y (16 * 0 + i) (16 * 0 + j)) 5 j (nI i), o)) (st := []) (st1 := [.int (nI (mMap (up (mCpV y (16 * 0 + i) (16 * 0 + j)) 5 j (nI i)) j))]) C K ok_X5_76 (c_X5_mapped l D n0 κ (up (mCpV y (16 * 0 + i) (16 * 0 + j)) 5 j (nI i)) o j (by omega)) enc_M (by decide) rfl rfl ⟨by decide, by decide⟩ ⟨Nat.zero_le _, Nat.zero_le _⟩ (by simp [Value.category]) dX5_snap_63 rfl rfl ?_
          exact z_endI (hret _ _ dX5_snap_66) rfl rfl
        · exact absurd h_41 (by decide +kernel)
      · exact absurd h2 h_26
    · have g_13 := cv_b0 h_13
      exact absurd g_13 (by simp [h1])
set_option maxHeartbeats 4000000 in
set_option maxRecDepth 100000 in
theorem c_X5_drop_1 (l : Launch) (D : DD) (n0 : Nat) (κ μ : KH) (o : Int64) (v : Int32) (hb : ¬ okV1 μ v) : HM l D n0 yX5_drop cX5_drop 4 (some .int) 2 41 [.ref (n0 + 113), .int v] (κ, μ, o) (some (.int 0)) (κ, up μ 0 0 1, o) := by
  refine HM.of (by decide) (by simp [Value.category]) (by simp) (Or.inr (Or.inl ⟨_, .int, rfl, rfl, rfl⟩)) ?_
  intro pp ee ss mm aa bb me cd Q C K hret
  show ZZ pp l ee (rmk 2 41) ss mm aa bb me cd D n0 127 4 0 0 Q _ 0 [some (.ref (n0 + 113)), some (.int v), none, none] []
  refine z_aload_n C rfl dX5_drop_0 ?_
  refine z_aload_n C rfl dX5_drop_1 ?_
  refine z_iload_n C rfl dX5_drop_2 ?_
  rcases vNum_or v with hv | ⟨j, hj, rfl⟩
  · skip
    refine z_callV (As := [.int v]) (r := (some (.int 0))) (σ1 := (κ, μ, o)) (st := [.ref (n0 + 113)]) (st1 := [.int 0, .ref (n0 + 113)]) C K ok_X5_126 (c_X5_isVolume_n l D n0 κ μ o v hv) enc_M (by decide) rfl rfl ⟨by decide, by decide⟩ ⟨Nat.zero_le _, Nat.zero_le _⟩ (by simp [Value.category]) dX5_drop_3 rfl rfl ?_
    refine z_if_ne (tgt := 13) C dX5_drop_6 (by decide) (fun h_6 => ?_) (fun h_6 => ?_)
    · exact absurd h_6 (by decide +kernel)
    · skip
      refine z_iconst (v := 1) C (by decide +kernel) dX5_drop_9 ?_
      refine z_goto (tgt := 14) C dX5_drop_10 (by decide) ?_
      refine pf_X5_51 (x := 1) C dX5_drop_14 ?_
      refine z_aload_n C rfl dX5_drop_17 ?_
      refine gf_X5_51 (v := 1) C rfl dX5_drop_18 ?_
      refine z_if_le (tgt := 26) C dX5_drop_21 (by decide) (fun h_21 => ?_) (fun h_21 => ?_)
      · exact absurd h_21 (by decide +kernel)
      · skip
        refine z_iconst (v := 0) C (by decide +kernel) dX5_drop_24 ?_
        exact z_endI (hret _ _ dX5_drop_25) rfl rfl
  · skip
    refine z_callV (As := [.int (nI j)]) (r := (some (.int (b2i (!decide (μ 1 j = 0)))))) (σ1 := (κ, μ, o)) (st := [.ref (n0 + 113)]) (st1 := [.int (b2i (!decide (μ 1 j = 0))), .ref (n0 + 113)]) C K ok_X5_126 (c_X5_isVolume l D n0 κ μ o j (by omega)) enc_M (by decide) rfl rfl ⟨by decide, by decide⟩ ⟨Nat.zero_le _, Nat.zero_le _⟩ (by simp [Value.category]) dX5_drop_3 rfl rfl ?_
    refine z_if_ne (tgt := 13) C dX5_drop_6 (by decide) (fun h_6 => ?_) (fun h_6 => ?_)
    · have g_6 := cv_b1 h_6
      exact absurd ⟨j, hj, rfl, b_ne g_6⟩ hb
    · have g_6 := cv_b0 h_6
      refine z_iconst (v := 1) C (by decide +kernel) dX5_drop_9 ?_
      refine z_goto (tgt := 14) C dX5_drop_10 (by decide) ?_
      refine pf_X5_51 (x := 1) C dX5_drop_14 ?_
      refine z_aload_n C rfl dX5_drop_17 ?_
      refine gf_X5_51 (v := 1) C rfl dX5_drop_18 ?_
      refine z_if_le (tgt := 26) C dX5_drop_21 (by decide) (fun h_21 => ?_) (fun h_21 => ?_)
      · exact absurd h_21 (by decide +kernel)
      · skip
        refine z_iconst (v := 0) C (by decide +kernel) dX5_drop_24 ?_
        exact z_endI (hret _ _ dX5_drop_25) rfl rfl
set_option maxHeartbeats 4000000 in
set_option maxRecDepth 100000 in
theorem c_X5_drop (l : Launch) (D : DD) (n0 : Nat) (κ μ : KH) (o : Int64) (j : Nat) (hj : j < 16) (h1 : μ 1 j ≠ 0) (y : KH) (hy : y = up μ 0 0 0) (hD0 : mD y (nQ y)) (hD1 : mD (up (mDq j (nQ y) 0 y) 1 j 0) (nQ (up (mDq j (nQ y) 0 y) 1 j 0))) : HM l D n0 yX5_drop cX5_drop 4 (some .int) 7 165 [.ref (n0 + 113), .int (nI j)] (κ, μ, o) (some (.int (nI (mMap y j)))) (κ, mDrain (up (mDq j (nQ y) 0 y) 1 j 0), o) := by
  refine HM.of (by decide) (by simp [Value.category]) (by simp) (Or.inr (Or.inl ⟨_, .int, rfl, rfl, rfl⟩)) ?_
  intro pp ee ss mm aa bb me cd Q C K hret
  show ZZ pp l ee (rmk 7 165) ss mm aa bb me cd D n0 127 4 0 0 Q _ 0 [some (.ref (n0 + 113)), some (.int (nI j)), none, none] []
  refine z_aload_n C rfl dX5_drop_0 ?_
  refine z_aload_n C rfl dX5_drop_1 ?_
  refine z_iload_n C rfl dX5_drop_2 ?_
  refine z_callV (As := [.int (nI j)]) (r := (some (.int (b2i (!decide (μ 1 j = 0)))))) (σ1 := (κ, μ, o)) (st := [.ref (n0 + 113)]) (st1 := [.int (b2i (!decide (μ 1 j = 0))), .ref (n0 + 113)]) C K ok_X5_126 (c_X5_isVolume l D n0 κ μ o j (by omega)) enc_M (by decide) rfl rfl ⟨by decide, by decide⟩ ⟨Nat.zero_le _, Nat.zero_le _⟩ (by simp [Value.category]) dX5_drop_3 rfl rfl ?_
  refine z_if_ne (tgt := 13) C dX5_drop_6 (by decide) (fun h_6 => ?_) (fun h_6 => ?_)
  · have g_6 := cv_b1 h_6
    refine z_iconst (v := 0) C (by decide +kernel) dX5_drop_13 ?_
    refine pf_X5_51 (x := 0) C dX5_drop_14 ?_
    rw [← hy]
    refine z_aload_n C rfl dX5_drop_17 ?_
    refine gf_X5_51 (v := 0) C (by rw [hy]; exact up_self) dX5_drop_18 ?_
    refine z_if_le (tgt := 26) C dX5_drop_21 (by decide) (fun h_21 => ?_) (fun h_21 => ?_)
    · skip
      refine z_aload_n C rfl dX5_drop_26 ?_
      refine z_iload_n C rfl dX5_drop_27 ?_
      refine z_callV (As := [.int (nI j)]) (r := (some (.int (nI (mMap y j))))) (σ1 := (κ, y, o)) (st := []) (st1 := [.int (nI (mMap y j))]) C K ok_X5_76 (c_X5_mapped l D n0 κ y o j hj) enc_M (by decide) rfl rfl ⟨by decide, by decide⟩ ⟨Nat.zero_le _, Nat.zero_le _⟩ (by simp [Value.category]) dX5_drop_28 rfl rfl ?_
      refine z_istore_n (ls' := [some (.ref (n0 + 113)), some (.int (nI j)), some (.int (nI (mMap y j))), none]) C (by decide) rfl dX5_drop_31 ?_
      refine z_iconst (v := 0) C (by decide +kernel) dX5_drop_32 ?_
      refine z_istore_n (ls' := [some (.ref (n0 + 113)), some (.int (nI j)), some (.int (nI (mMap y j))), some (.int 0)]) C (by decide) rfl dX5_drop_33 ?_
      have hl_34 : ∀ (k : Nat) (a : Nat) (x : KH), mD x (a + k) → a + k ≤ 8 → mDq j k a x = mDq j (nQ y) 0 y → ZZ pp l ee (rmk 7 165) ss mm aa bb me cd D n0 127 4 0 0 Q (κ, x, o) 34 [some (.ref (n0 + 113)), some (.int (nI j)), some (.int (nI (mMap y j))), some (.int (nI a))] [] := by
        intro k
        induction k with
        | zero =>
          intro a x hD ha8 hX
          obtain ⟨hDJ, hDq, hD8, hDe⟩ := id hD
          refine z_iload_n C rfl dX5_drop_34 ?_
          refine z_aload_n C rfl dX5_drop_35 ?_
          refine gf_X5_107 (v := nI (a + 0)) C hDq dX5_drop_36 ?_
          refine z_icmp_ge (tgt := 76) C dX5_drop_39 (by decide) (fun h_39 => ?_) (fun h_39 => ?_)
          · have g_39 := cv_le (a := a + 0) (b := a) (by omega) (by omega) h_39
            have hX2 : x = mDq j (nQ y) 0 y := hX
            rw [hX2]
            refine z_aload_n C rfl dX5_drop_76 ?_
            refine gf_X5_7 C dX5_drop_77 ?_
            refine z_iload_n C rfl dX5_drop_80 ?_
            refine z_iconst (v := 0) C (by decide +kernel) dX5_drop_81 ?_
            refine as_114 (x := 0) C (j) (Or.inl rfl) rfl (by omega) dX5_drop_82 ?_
            refine z_aload_n C rfl dX5_drop_83 ?_
            refine z_callV (As := []) (r := none) (σ1 := (κ, mDrain (up ((mDq j (nQ y) 0 y)) 1 j 0), o)) (st := []) (st1 := []) C K ok_X5_150 (c_X5_drain l D n0 κ (up ((mDq j (nQ y) 0 y)) 1 j 0) o hD1) enc_M (by decide) rfl rfl ⟨by decide, by decide⟩ ⟨Nat.zero_le _, Nat.zero_le _⟩ (by simp [Value.category]) dX5_drop_84 rfl rfl ?_
            refine z_iload_n C rfl dX5_drop_87 ?_
            exact z_endI (hret _ _ dX5_drop_88) rfl rfl
          · have g_39 := cv_nle (a := a + 0) (b := a) (by omega) (by omega) h_39
            exact absurd g_39 (by omega)
        | succ k ih =>
          intro a x hD ha8 hX
          obtain ⟨hDJ, hDq, hD8, hDe⟩ := id hD
          refine z_iload_n C rfl dX5_drop_34 ?_
          refine z_aload_n C rfl dX5_drop_35 ?_
          refine gf_X5_107 (v := nI (a + (k + 1))) C hDq dX5_drop_36 ?_
          refine z_icmp_ge (tgt := 76) C dX5_drop_39 (by decide) (fun h_39 => ?_) (fun h_39 => ?_)
          · have g_39 := cv_le (a := a + (k + 1)) (b := a) (by omega) (by omega) h_39
            exact absurd g_39 (by omega)
          · have g_39 := cv_nle (a := a + (k + 1)) (b := a) (by omega) (by omega) h_39
            refine z_aload_n C rfl dX5_drop_42 ?_
            refine gf_X5_42 C dX5_drop_43 ?_
            refine z_iload_n C rfl dX5_drop_46 ?_
            refine al_123 (v := x 10 a) C (a) rfl (by omega) rfl dX5_drop_47 ?_
            refine z_iload_n C rfl dX5_drop_48 ?_
            refine z_icmp_ne (tgt := 70) C dX5_drop_49 (by decide) (fun h_49 => ?_) (fun h_49 => ?_)
            · skip
              refine z_iinc (v := nI (a + 1)) (ls' := [some (.ref (n0 + 113)), some (.int (nI j)), some (.int (nI (mMap y j))), some (.int (nI (a + 1)))]) C rfl (cv_inc a 1) (by decide) rfl dX5_drop_70 ?_
              refine z_goto (tgt := 34) C dX5_drop_73 (by decide) ?_
              exact z_cast (ih (a + 1) x (by rw [show a + 1 + k = a + (k + 1) by omega]; exact hD) (by omega) (by rw [← hX, mDq, if_neg h_49])) rfl ⟨rfl, rfl, rfl, rfl, trivial⟩ rfl
            · skip
              refine z_aload_n C rfl dX5_drop_52 ?_
              refine z_dup C rfl dX5_drop_53 ?_
              refine gf_X5_116 (v := x 0 21) C rfl dX5_drop_54 ?_
              refine z_iconst (v := 1) C (by decide +kernel) dX5_drop_57 ?_
              refine z_iadd (v := (x 0 21) + 1) C rfl dX5_drop_58 ?_
              refine pf_X5_116 (x := (x 0 21) + 1) C dX5_drop_59 ?_
              refine z_aload_n C rfl dX5_drop_62 ?_
              refine z_iload_n C rfl dX5_drop_63 ?_
              refine z_callV (As := [.int (nI a)]) (r := none) (σ1 := (κ, mUnq (up x 0 21 ((x 0 21) + 1)) (a + k) a, o)) (st := []) (st1 := []) C K ok_X5_119 (c_X5_unqueue l D n0 κ (up x 0 21 ((x 0 21) + 1)) o (a + k) a (mD_up0 (i := 21) (z := x 0 21 + 1) (by decide) (by decide) (by decide) (show mD x (a + k + 1) from hD)).2.1 (by omega) (by omega)) enc_M (by decide) rfl rfl ⟨by decide, by decide⟩ ⟨Nat.zero_le _, Nat.zero_le _⟩ (by simp [Value.category]) dX5_drop_64 rfl rfl ?_
              refine z_goto (tgt := 34) C dX5_drop_67 (by decide) ?_
              exact z_cast (ih a _ (mD_unq (by omega) (mD_up0 (i := 21) (z := x 0 21 + 1) (by decide) (by decide) (by decide) (show mD x (a + k + 1) from hD))) (by omega) (by rw [← hX, mDq, if_pos h_49])) rfl ⟨rfl, rfl, rfl, rfl, trivial⟩ rfl
      exact z_cast (hl_34 (nQ y) 0 y (by rw [Nat.zero_add]; exact hD0) (by rw [Nat.zero_add]; exact hD0.2.2.1) rfl) rfl ⟨rfl, rfl, rfl, rfl, trivial⟩ rfl
    · exact absurd h_21 (by decide +kernel)
  · have g_6 := cv_b0 h_6
    exact absurd g_6 (by simp [h1])
set_option maxHeartbeats 4000000 in
set_option maxRecDepth 100000 in
theorem c_X5_resize_1 (l : Launch) (D : DD) (n0 : Nat) (κ μ : KH) (o : Int64) (v s : Int32) (hb : ¬ okV1 μ v) : HM l D n0 yX5_resize cX5_resize 4 (some .int) 2 41 [.ref (n0 + 113), .int v, .int s] (κ, μ, o) (some (.int 0)) (κ, up μ 0 0 1, o) := by
  refine HM.of (by decide) (by simp [Value.category]) (by simp) (Or.inr (Or.inl ⟨_, .int, rfl, rfl, rfl⟩)) ?_
  intro pp ee ss mm aa bb me cd Q C K hret
  show ZZ pp l ee (rmk 2 41) ss mm aa bb me cd D n0 127 4 0 0 Q _ 0 [some (.ref (n0 + 113)), some (.int v), some (.int s), none] []
  refine z_aload_n C rfl dX5_resize_0 ?_
  refine z_aload_n C rfl dX5_resize_1 ?_
  refine z_iload_n C rfl dX5_resize_2 ?_
  rcases vNum_or v with hv | ⟨j, hj, rfl⟩
  · skip
    refine z_callV (As := [.int v]) (r := (some (.int 0))) (σ1 := (κ, μ, o)) (st := [.ref (n0 + 113)]) (st1 := [.int 0, .ref (n0 + 113)]) C K ok_X5_126 (c_X5_isVolume_n l D n0 κ μ o v hv) enc_M (by decide) rfl rfl ⟨by decide, by decide⟩ ⟨Nat.zero_le _, Nat.zero_le _⟩ (by simp [Value.category]) dX5_resize_3 rfl rfl ?_
    refine z_if_ne (tgt := 13) C dX5_resize_6 (by decide) (fun h_6 => ?_) (fun h_6 => ?_)
    · exact absurd h_6 (by decide +kernel)
    · skip
      refine z_iconst (v := 1) C (by decide +kernel) dX5_resize_9 ?_
      refine z_goto (tgt := 44) C dX5_resize_10 (by decide) ?_
      refine pf_X5_51 (x := 1) C dX5_resize_44 ?_
      refine z_aload_n C rfl dX5_resize_47 ?_
      refine gf_X5_51 (v := 1) C rfl dX5_resize_48 ?_
      refine z_if_le (tgt := 56) C dX5_resize_51 (by decide) (fun h_51 => ?_) (fun h_51 => ?_)
      · exact absurd h_51 (by decide +kernel)
      · skip
        refine z_iconst (v := 0) C (by decide +kernel) dX5_resize_54 ?_
        exact z_endI (hret _ _ dX5_resize_55) rfl rfl
  · skip
    refine z_callV (As := [.int (nI j)]) (r := (some (.int (b2i (!decide (μ 1 j = 0)))))) (σ1 := (κ, μ, o)) (st := [.ref (n0 + 113)]) (st1 := [.int (b2i (!decide (μ 1 j = 0))), .ref (n0 + 113)]) C K ok_X5_126 (c_X5_isVolume l D n0 κ μ o j (by omega)) enc_M (by decide) rfl rfl ⟨by decide, by decide⟩ ⟨Nat.zero_le _, Nat.zero_le _⟩ (by simp [Value.category]) dX5_resize_3 rfl rfl ?_
    refine z_if_ne (tgt := 13) C dX5_resize_6 (by decide) (fun h_6 => ?_) (fun h_6 => ?_)
    · have g_6 := cv_b1 h_6
      exact absurd ⟨j, hj, rfl, b_ne g_6⟩ hb
    · have g_6 := cv_b0 h_6
      refine z_iconst (v := 1) C (by decide +kernel) dX5_resize_9 ?_
      refine z_goto (tgt := 44) C dX5_resize_10 (by decide) ?_
      refine pf_X5_51 (x := 1) C dX5_resize_44 ?_
      refine z_aload_n C rfl dX5_resize_47 ?_
      refine gf_X5_51 (v := 1) C rfl dX5_resize_48 ?_
      refine z_if_le (tgt := 56) C dX5_resize_51 (by decide) (fun h_51 => ?_) (fun h_51 => ?_)
      · exact absurd h_51 (by decide +kernel)
      · skip
        refine z_iconst (v := 0) C (by decide +kernel) dX5_resize_54 ?_
        exact z_endI (hret _ _ dX5_resize_55) rfl rfl
set_option maxHeartbeats 4000000 in
set_option maxRecDepth 100000 in
theorem c_X5_resize_2 (l : Launch) (D : DD) (n0 : Nat) (κ μ : KH) (o : Int64) (j : Nat) (s : Int32) (hj : j < 16) (h1 : μ 1 j ≠ 0) (hs : vSiz s = false) : HM l D n0 yX5_resize cX5_resize 4 (some .int) 2 41 [.ref (n0 + 113), .int (nI j), .int s] (κ, μ, o) (some (.int 0)) (κ, up μ 0 0 2, o) := by
  refine HM.of (by decide) (by simp [Value.category]) (by simp) (Or.inr (Or.inl ⟨_, .int, rfl, rfl, rfl⟩)) ?_
  intro pp ee ss mm aa bb me cd Q C K hret
  show ZZ pp l ee (rmk 2 41) ss mm aa bb me cd D n0 127 4 0 0 Q _ 0 [some (.ref (n0 + 113)), some (.int (nI j)), some (.int s), none] []
  refine z_aload_n C rfl dX5_resize_0 ?_
  refine z_aload_n C rfl dX5_resize_1 ?_
  refine z_iload_n C rfl dX5_resize_2 ?_
  refine z_callV (As := [.int (nI j)]) (r := (some (.int (b2i (!decide (μ 1 j = 0)))))) (σ1 := (κ, μ, o)) (st := [.ref (n0 + 113)]) (st1 := [.int (b2i (!decide (μ 1 j = 0))), .ref (n0 + 113)]) C K ok_X5_126 (c_X5_isVolume l D n0 κ μ o j (by omega)) enc_M (by decide) rfl rfl ⟨by decide, by decide⟩ ⟨Nat.zero_le _, Nat.zero_le _⟩ (by simp [Value.category]) dX5_resize_3 rfl rfl ?_
  refine z_if_ne (tgt := 13) C dX5_resize_6 (by decide) (fun h_6 => ?_) (fun h_6 => ?_)
  · have g_6 := cv_b1 h_6
    refine z_iload_n C rfl dX5_resize_13 ?_
    refine z_callS (As := [.int s]) (r := (some (.int (b2i (vSiz s))))) (σ1 := (κ, μ, o)) (st := [.ref (n0 + 113)]) (st1 := [.int (b2i (vSiz s)), .ref (n0 + 113)]) C K ok_X5_144 (c_X5_isSize l D n0 κ μ o s) rfl ⟨by decide, by decide⟩ ⟨Nat.zero_le _, Nat.zero_le _⟩ (by simp [Value.category]) dX5_resize_14 rfl rfl ?_
    refine z_if_ne (tgt := 24) C dX5_resize_17 (by decide) (fun h_17 => ?_) (fun h_17 => ?_)
    · have g_17 := cv_b1 h_17
      exact absurd g_17 (by rw [hs]; decide)
    · have g_17 := cv_b0 h_17
      refine z_iconst (v := 2) C (by decide +kernel) dX5_resize_20 ?_
      refine z_goto (tgt := 44) C dX5_resize_21 (by decide) ?_
      refine pf_X5_51 (x := 2) C dX5_resize_44 ?_
      refine z_aload_n C rfl dX5_resize_47 ?_
      refine gf_X5_51 (v := 2) C rfl dX5_resize_48 ?_
      refine z_if_le (tgt := 56) C dX5_resize_51 (by decide) (fun h_51 => ?_) (fun h_51 => ?_)
      · exact absurd h_51 (by decide +kernel)
      · skip
        refine z_iconst (v := 0) C (by decide +kernel) dX5_resize_54 ?_
        exact z_endI (hret _ _ dX5_resize_55) rfl rfl
  · have g_6 := cv_b0 h_6
    exact absurd g_6 (by simp [h1])
set_option maxHeartbeats 4000000 in
set_option maxRecDepth 100000 in
theorem c_X5_resize_3 (l : Launch) (D : DD) (n0 : Nat) (κ μ : KH) (o : Int64) (j t z n : Nat) (hj : j < 16) (h1 : μ 1 j ≠ 0) (hs : vSiz (nI t) = true) (ht : t ≤ 40) (hz : μ 2 j = nI z) (hz40 : z ≤ 40) (hn : μ 0 23 = nI n) (hn8 : n ≤ 8) (hw : mWIn μ n j t (z - t) = true) : HM l D n0 yX5_resize cX5_resize 4 (some .int) 2 49 [.ref (n0 + 113), .int (nI j), .int (nI t)] (κ, μ, o) (some (.int 0)) (κ, up μ 0 0 3, o) := by
  refine HM.of (by decide) (by simp [Value.category]) (by simp) (Or.inr (Or.inl ⟨_, .int, rfl, rfl, rfl⟩)) ?_
  intro pp ee ss mm aa bb me cd Q C K hret
  show ZZ pp l ee (rmk 2 49) ss mm aa bb me cd D n0 127 4 0 0 Q _ 0 [some (.ref (n0 + 113)), some (.int (nI j)), some (.int (nI t)), none] []
  refine z_aload_n C rfl dX5_resize_0 ?_
  refine z_aload_n C rfl dX5_resize_1 ?_
  refine z_iload_n C rfl dX5_resize_2 ?_
  refine z_callV (As := [.int (nI j)]) (r := (some (.int (b2i (!decide (μ 1 j = 0)))))) (σ1 := (κ, μ, o)) (st := [.ref (n0 + 113)]) (st1 := [.int (b2i (!decide (μ 1 j = 0))), .ref (n0 + 113)]) C K ok_X5_126 (c_X5_isVolume l D n0 κ μ o j (by omega)) enc_M (by decide) rfl rfl ⟨by decide, by decide⟩ ⟨Nat.zero_le _, Nat.zero_le _⟩ (by simp [Value.category]) dX5_resize_3 rfl rfl ?_
  refine z_if_ne (tgt := 13) C dX5_resize_6 (by decide) (fun h_6 => ?_) (fun h_6 => ?_)
  · have g_6 := cv_b1 h_6
    refine z_iload_n C rfl dX5_resize_13 ?_
    refine z_callS (As := [.int (nI t)]) (r := (some (.int (b2i (vSiz (nI t)))))) (σ1 := (κ, μ, o)) (st := [.ref (n0 + 113)]) (st1 := [.int (b2i (vSiz (nI t))), .ref (n0 + 113)]) C K ok_X5_144 (c_X5_isSize l D n0 κ μ o (nI t)) rfl ⟨by decide, by decide⟩ ⟨Nat.zero_le _, Nat.zero_le _⟩ (by simp [Value.category]) dX5_resize_14 rfl rfl ?_
    refine z_if_ne (tgt := 24) C dX5_resize_17 (by decide) (fun h_17 => ?_) (fun h_17 => ?_)
    · have g_17 := cv_b1 h_17
      refine z_aload_n C rfl dX5_resize_24 ?_
      refine z_iload_n C rfl dX5_resize_25 ?_
      refine z_iload_n C rfl dX5_resize_26 ?_
      refine z_aload_n C rfl dX5_resize_27 ?_
      refine gf_X5_13 C dX5_resize_28 ?_
      refine z_iload_n C rfl dX5_resize_31 ?_
      refine al_115 (v := nI z) C (j) rfl (by omega) hz dX5_resize_32 ?_
      refine z_callV (As := [.int (nI j), .int (nI t), .int (nI z)]) (r := (some (.int (b2i (mWIn μ n j t (z - t)))))) (σ1 := (κ, μ, o)) (st := [.ref (n0 + 113)]) (st1 := [.int (b2i (mWIn μ n j t (z - t))), .ref (n0 + 113)]) C K ok_X5_153 (c_X5_waitsIn l D n0 κ μ o n j t z hn hn8 (by omega) (by omega)) enc_M (by decide) rfl rfl ⟨by decide, by decide⟩ ⟨Nat.zero_le _, Nat.zero_le _⟩ (by simp [Value.category]) dX5_resize_33 rfl rfl ?_
      refine z_if_eq (tgt := 43) C dX5_resize_36 (by decide) (fun h_36 => ?_) (fun h_36 => ?_)
      · have g_36 := cv_b0 h_36
        exact absurd g_36 (by rw [hw]; decide)
      · have g_36 := cv_b1 h_36
        refine z_iconst (v := 3) C (by decide +kernel) dX5_resize_39 ?_
        refine z_goto (tgt := 44) C dX5_resize_40 (by decide) ?_
        refine pf_X5_51 (x := 3) C dX5_resize_44 ?_
        refine z_aload_n C rfl dX5_resize_47 ?_
        refine gf_X5_51 (v := 3) C rfl dX5_resize_48 ?_
        refine z_if_le (tgt := 56) C dX5_resize_51 (by decide) (fun h_51 => ?_) (fun h_51 => ?_)
        · exact absurd h_51 (by decide +kernel)
        · skip
          refine z_iconst (v := 0) C (by decide +kernel) dX5_resize_54 ?_
          exact z_endI (hret _ _ dX5_resize_55) rfl rfl
    · have g_17 := cv_b0 h_17
      exact absurd g_17 (by rw [hs]; decide)
  · have g_6 := cv_b0 h_6
    exact absurd g_6 (by simp [h1])
set_option maxHeartbeats 4000000 in
set_option maxRecDepth 100000 in
theorem c_X5_resize (l : Launch) (D : DD) (n0 : Nat) (κ μ : KH) (o : Int64) (j t z n : Nat) (hj : j < 16) (h1 : μ 1 j ≠ 0) (hs : vSiz (nI t) = true) (ht : t ≤ 40) (hz : μ 2 j = nI z) (hz40 : z ≤ 40) (hn : μ 0 23 = nI n) (hn8 : n ≤ 8) (hw : mWIn μ n j t (z - t) = false) (y : KH) (hy : y = up μ 0 0 0) (hzy : y 2 j = nI z) (hD1 : mD (up (mUnm y j t z) 2 j (nI t)) (nQ (up (mUnm y j t z) 2 j (nI t)))) : HM l D n0 yX5_resize cX5_resize 4 (some .int) 7 165 [.ref (n0 + 113), .int (nI j), .int (nI t)] (κ, μ, o) (some (.int (nI (mUmC y j t z)))) (κ, mDrain (up (mUnm y j t z) 2 j (nI t)), o) := by
  refine HM.of (by decide) (by simp [Value.category]) (by simp) (Or.inr (Or.inl ⟨_, .int, rfl, rfl, rfl⟩)) ?_
  intro pp ee ss mm aa bb me cd Q C K hret
  show ZZ pp l ee (rmk 7 165) ss mm aa bb me cd D n0 127 4 0 0 Q _ 0 [some (.ref (n0 + 113)), some (.int (nI j)), some (.int (nI t)), none] []
  refine z_aload_n C rfl dX5_resize_0 ?_
  refine z_aload_n C rfl dX5_resize_1 ?_
  refine z_iload_n C rfl dX5_resize_2 ?_
  refine z_callV (As := [.int (nI j)]) (r := (some (.int (b2i (!decide (μ 1 j = 0)))))) (σ1 := (κ, μ, o)) (st := [.ref (n0 + 113)]) (st1 := [.int (b2i (!decide (μ 1 j = 0))), .ref (n0 + 113)]) C K ok_X5_126 (c_X5_isVolume l D n0 κ μ o j (by omega)) enc_M (by decide) rfl rfl ⟨by decide, by decide⟩ ⟨Nat.zero_le _, Nat.zero_le _⟩ (by simp [Value.category]) dX5_resize_3 rfl rfl ?_
  refine z_if_ne (tgt := 13) C dX5_resize_6 (by decide) (fun h_6 => ?_) (fun h_6 => ?_)
  · have g_6 := cv_b1 h_6
    refine z_iload_n C rfl dX5_resize_13 ?_
    refine z_callS (As := [.int (nI t)]) (r := (some (.int (b2i (vSiz (nI t)))))) (σ1 := (κ, μ, o)) (st := [.ref (n0 + 113)]) (st1 := [.int (b2i (vSiz (nI t))), .ref (n0 + 113)]) C K ok_X5_144 (c_X5_isSize l D n0 κ μ o (nI t)) rfl ⟨by decide, by decide⟩ ⟨Nat.zero_le _, Nat.zero_le _⟩ (by simp [Value.category]) dX5_resize_14 rfl rfl ?_
    refine z_if_ne (tgt := 24) C dX5_resize_17 (by decide) (fun h_17 => ?_) (fun h_17 => ?_)
    · have g_17 := cv_b1 h_17
      refine z_aload_n C rfl dX5_resize_24 ?_
      refine z_iload_n C rfl dX5_resize_25 ?_
      refine z_iload_n C rfl dX5_resize_26 ?_
      refine z_aload_n C rfl dX5_resize_27 ?_
      refine gf_X5_13 C dX5_resize_28 ?_
      refine z_iload_n C rfl dX5_resize_31 ?_
      refine al_115 (v := nI z) C (j) rfl (by omega) hz dX5_resize_32 ?_
      refine z_callV (As := [.int (nI j), .int (nI t), .int (nI z)]) (r := (some (.int (b2i (mWIn μ n j t (z - t)))))) (σ1 := (κ, μ, o)) (st := [.ref (n0 + 113)]) (st1 := [.int (b2i (mWIn μ n j t (z - t))), .ref (n0 + 113)]) C K ok_X5_153 (c_X5_waitsIn l D n0 κ μ o n j t z hn hn8 (by omega) (by omega)) enc_M (by decide) rfl rfl ⟨by decide, by decide⟩ ⟨Nat.zero_le _, Nat.zero_le _⟩ (by simp [Value.category]) dX5_resize_33 rfl rfl ?_
      refine z_if_eq (tgt := 43) C dX5_resize_36 (by decide) (fun h_36 => ?_) (fun h_36 => ?_)
      · have g_36 := cv_b0 h_36
        refine z_iconst (v := 0) C (by decide +kernel) dX5_resize_43 ?_
        refine pf_X5_51 (x := 0) C dX5_resize_44 ?_
        rw [← hy]
        refine z_aload_n C rfl dX5_resize_47 ?_
        refine gf_X5_51 (v := 0) C (by rw [hy]; exact up_self) dX5_resize_48 ?_
        refine z_if_le (tgt := 56) C dX5_resize_51 (by decide) (fun h_51 => ?_) (fun h_51 => ?_)
        · skip
          refine z_aload_n C rfl dX5_resize_56 ?_
          refine z_iload_n C rfl dX5_resize_57 ?_
          refine z_iload_n C rfl dX5_resize_58 ?_
          refine z_aload_n C rfl dX5_resize_59 ?_
          refine gf_X5_13 C dX5_resize_60 ?_
          refine z_iload_n C rfl dX5_resize_63 ?_
          refine al_115 (v := nI z) C (j) rfl (by omega) hzy dX5_resize_64 ?_
          refine z_callV (As := [.int (nI j), .int (nI t), .int (nI z)]) (r := (some (.int (nI (mUmC y j t z))))) (σ1 := (κ, mUnm y j t z, o)) (st := []) (st1 := [.int (nI (mUmC y j t z))]) C K ok_X5_157 (c_X5_unmap l D n0 κ y o j t z hj (by omega) (by omega)) enc_M (by decide) rfl rfl ⟨by decide, by decide⟩ ⟨Nat.zero_le _, Nat.zero_le _⟩ (by simp [Value.category]) dX5_resize_65 rfl rfl ?_
          refine z_istore_n (ls' := [some (.ref (n0 + 113)), some (.int (nI j)), some (.int (nI t)), some (.int (nI (mUmC y j t z)))]) C (by decide) rfl dX5_resize_68 ?_
          refine z_aload_n C rfl dX5_resize_69 ?_
          refine gf_X5_13 C dX5_resize_70 ?_
          refine z_iload_n C rfl dX5_resize_73 ?_
          refine z_iload_n C rfl dX5_resize_74 ?_
          refine as_115 (x := nI t) C (j) rfl (by omega) dX5_resize_75 ?_
          refine z_aload_n C rfl dX5_resize_76 ?_
          refine z_callV (As := []) (r := none) (σ1 := (κ, mDrain (up (mUnm y j t z) 2 j (nI t)), o)) (st := []) (st1 := []) C K ok_X5_150 (c_X5_drain l D n0 κ (up (mUnm y j t z) 2 j (nI t)) o hD1) enc_M (by decide) rfl rfl ⟨by decide, by decide⟩ ⟨Nat.zero_le _, Nat.zero_le _⟩ (by simp [Value.category]) dX5_resize_77 rfl rfl ?_
          refine z_iload_n C rfl dX5_resize_80 ?_
          exact z_endI (hret _ _ dX5_resize_81) rfl rfl
        · exact absurd h_51 (by decide +kernel)
      · have g_36 := cv_b1 h_36
        exact absurd g_36 (by rw [hw]; decide)
    · have g_17 := cv_b0 h_17
      exact absurd g_17 (by rw [hs]; decide)
  · have g_6 := cv_b0 h_6
    exact absurd g_6 (by simp [h1])
set_option maxHeartbeats 4000000 in
set_option maxRecDepth 100000 in
theorem c_X5_discard_1 (l : Launch) (D : DD) (n0 : Nat) (κ μ : KH) (o : Int64) (v a n : Int32) (hb : ¬ okD μ v a n) (hsz : ∀ i, i < 16 → μ 1 i ≠ 0 → ∃ z : Nat, z ≤ 40 ∧ μ 2 i = nI z) : HM l D n0 yX5_discard cX5_discard 5 (some .int) 2 41 [.ref (n0 + 113), .int v, .int a, .int n] (κ, μ, o) (some (.int 0)) (κ, up μ 0 0 1, o) := by
  refine HM.of (by decide) (by simp [Value.category]) (by simp) (Or.inr (Or.inl ⟨_, .int, rfl, rfl, rfl⟩)) ?_
  intro pp ee ss mm aa bb me cd Q C K hret
  show ZZ pp l ee (rmk 2 41) ss mm aa bb me cd D n0 127 5 0 0 Q _ 0 [some (.ref (n0 + 113)), some (.int v), some (.int a), some (.int n), none] []
  refine z_aload_n C rfl dX5_discard_0 ?_
  refine z_aload_n C rfl dX5_discard_1 ?_
  refine z_iload_n C rfl dX5_discard_2 ?_
  rcases vNum_or v with hv | ⟨j, hj, rfl⟩
  · skip
    refine z_callV (As := [.int v]) (r := (some (.int 0))) (σ1 := (κ, μ, o)) (st := [.ref (n0 + 113)]) (st1 := [.int 0, .ref (n0 + 113)]) C K ok_X5_126 (c_X5_isVolume_n l D n0 κ μ o v hv) enc_M (by decide) rfl rfl ⟨by decide, by decide⟩ ⟨Nat.zero_le _, Nat.zero_le _⟩ (by simp [Value.category]) dX5_discard_3 rfl rfl ?_
    refine z_if_eq (tgt := 39) C dX5_discard_6 (by decide) (fun h_6 => ?_) (fun h_6 => ?_)
    · skip
      refine z_iconst (v := 1) C (by decide +kernel) dX5_discard_39 ?_
      refine z_goto (tgt := 60) C dX5_discard_40 (by decide) ?_
      refine pf_X5_51 (x := 1) C dX5_discard_60 ?_
      refine z_aload_n C rfl dX5_discard_63 ?_
      refine gf_X5_51 (v := 1) C rfl dX5_discard_64 ?_
      refine z_if_le (tgt := 72) C dX5_discard_67 (by decide) (fun h_67 => ?_) (fun h_67 => ?_)
      · exact absurd h_67 (by decide +kernel)
      · skip
        refine z_iconst (v := 0) C (by decide +kernel) dX5_discard_70 ?_
        exact z_endI (hret _ _ dX5_discard_71) rfl rfl
    · exact absurd h_6 (by decide +kernel)
  · skip
    refine z_callV (As := [.int (nI j)]) (r := (some (.int (b2i (!decide (μ 1 j = 0)))))) (σ1 := (κ, μ, o)) (st := [.ref (n0 + 113)]) (st1 := [.int (b2i (!decide (μ 1 j = 0))), .ref (n0 + 113)]) C K ok_X5_126 (c_X5_isVolume l D n0 κ μ o j (by omega)) enc_M (by decide) rfl rfl ⟨by decide, by decide⟩ ⟨Nat.zero_le _, Nat.zero_le _⟩ (by simp [Value.category]) dX5_discard_3 rfl rfl ?_
    refine z_if_eq (tgt := 39) C dX5_discard_6 (by decide) (fun h_6 => ?_) (fun h_6 => ?_)
    · have g_6 := cv_b0 h_6
      refine z_iconst (v := 1) C (by decide +kernel) dX5_discard_39 ?_
      refine z_goto (tgt := 60) C dX5_discard_40 (by decide) ?_
      refine pf_X5_51 (x := 1) C dX5_discard_60 ?_
      refine z_aload_n C rfl dX5_discard_63 ?_
      refine gf_X5_51 (v := 1) C rfl dX5_discard_64 ?_
      refine z_if_le (tgt := 72) C dX5_discard_67 (by decide) (fun h_67 => ?_) (fun h_67 => ?_)
      · exact absurd h_67 (by decide +kernel)
      · skip
        refine z_iconst (v := 0) C (by decide +kernel) dX5_discard_70 ?_
        exact z_endI (hret _ _ dX5_discard_71) rfl rfl
    · have g_6 := cv_b1 h_6
      refine z_iload_n C rfl dX5_discard_9 ?_
      refine z_if_lt (tgt := 39) C dX5_discard_10 (by decide) (fun h_10 => ?_) (fun h_10 => ?_)
      · skip
        refine z_iconst (v := 1) C (by decide +kernel) dX5_discard_39 ?_
        refine z_goto (tgt := 60) C dX5_discard_40 (by decide) ?_
        refine pf_X5_51 (x := 1) C dX5_discard_60 ?_
        refine z_aload_n C rfl dX5_discard_63 ?_
        refine gf_X5_51 (v := 1) C rfl dX5_discard_64 ?_
        refine z_if_le (tgt := 72) C dX5_discard_67 (by decide) (fun h_67 => ?_) (fun h_67 => ?_)
        · exact absurd h_67 (by decide +kernel)
        · skip
          refine z_iconst (v := 0) C (by decide +kernel) dX5_discard_70 ?_
          exact z_endI (hret _ _ dX5_discard_71) rfl rfl
      · skip
        refine z_iload_n C rfl dX5_discard_13 ?_
        refine z_if_lt (tgt := 39) C dX5_discard_14 (by decide) (fun h_14 => ?_) (fun h_14 => ?_)
        · skip
          refine z_iconst (v := 1) C (by decide +kernel) dX5_discard_39 ?_
          refine z_goto (tgt := 60) C dX5_discard_40 (by decide) ?_
          refine pf_X5_51 (x := 1) C dX5_discard_60 ?_
          refine z_aload_n C rfl dX5_discard_63 ?_
          refine gf_X5_51 (v := 1) C rfl dX5_discard_64 ?_
          refine z_if_le (tgt := 72) C dX5_discard_67 (by decide) (fun h_67 => ?_) (fun h_67 => ?_)
          · exact absurd h_67 (by decide +kernel)
          · skip
            refine z_iconst (v := 0) C (by decide +kernel) dX5_discard_70 ?_
            exact z_endI (hret _ _ dX5_discard_71) rfl rfl
        · skip
          refine z_iload_n C rfl dX5_discard_17 ?_
          refine z_aload_n C rfl dX5_discard_18 ?_
          refine gf_X5_13 C dX5_discard_19 ?_
          refine z_iload_n C rfl dX5_discard_22 ?_
          refine al_115 (v := μ 2 j) C (j) rfl (by omega) rfl dX5_discard_23 ?_
          refine z_icmp_gt (tgt := 39) C dX5_discard_24 (by decide) (fun h_24 => ?_) (fun h_24 => ?_)
          · skip
            refine z_iconst (v := 1) C (by decide +kernel) dX5_discard_39 ?_
            refine z_goto (tgt := 60) C dX5_discard_40 (by decide) ?_
            refine pf_X5_51 (x := 1) C dX5_discard_60 ?_
            refine z_aload_n C rfl dX5_discard_63 ?_
            refine gf_X5_51 (v := 1) C rfl dX5_discard_64 ?_
            refine z_if_le (tgt := 72) C dX5_discard_67 (by decide) (fun h_67 => ?_) (fun h_67 => ?_)
            · exact absurd h_67 (by decide +kernel)
            · skip
              refine z_iconst (v := 0) C (by decide +kernel) dX5_discard_70 ?_
              exact z_endI (hret _ _ dX5_discard_71) rfl rfl
          · skip
            refine z_iload_n C rfl dX5_discard_27 ?_
            refine z_aload_n C rfl dX5_discard_28 ?_
            refine gf_X5_13 C dX5_discard_29 ?_
            refine z_iload_n C rfl dX5_discard_32 ?_
            refine al_115 (v := μ 2 j) C (j) rfl (by omega) rfl dX5_discard_33 ?_
            refine z_iload_n C rfl dX5_discard_34 ?_
            refine z_isub (v := (μ 2 j) - a) C rfl dX5_discard_35 ?_
            refine z_icmp_le (tgt := 43) C dX5_discard_36 (by decide) (fun h_36 => ?_) (fun h_36 => ?_)
            · skip
              exact absurd (okD_of hj g_6 h_10 h_14 h_24 h_36 hsz) hb
            · skip
              refine z_iconst (v := 1) C (by decide +kernel) dX5_discard_39 ?_
              refine z_goto (tgt := 60) C dX5_discard_40 (by decide) ?_
              refine pf_X5_51 (x := 1) C dX5_discard_60 ?_
              refine z_aload_n C rfl dX5_discard_63 ?_
              refine gf_X5_51 (v := 1) C rfl dX5_discard_64 ?_
              refine z_if_le (tgt := 72) C dX5_discard_67 (by decide) (fun h_67 => ?_) (fun h_67 => ?_)
              · exact absurd h_67 (by decide +kernel)
              · skip
                refine z_iconst (v := 0) C (by decide +kernel) dX5_discard_70 ?_
                exact z_endI (hret _ _ dX5_discard_71) rfl rfl
set_option maxHeartbeats 4000000 in
set_option maxRecDepth 100000 in
theorem c_X5_discard_2 (l : Launch) (D : DD) (n0 : Nat) (κ μ : KH) (o : Int64) (j p q z n : Nat) (hj : j < 16) (h1 : μ 1 j ≠ 0) (hz : μ 2 j = nI z) (hz40 : z ≤ 40) (hpq : p + q ≤ z) (hn : μ 0 23 = nI n) (hn8 : n ≤ 8) (hw : mWIn μ n j p (p + q - p) = true) : HM l D n0 yX5_discard cX5_discard 5 (some .int) 2 49 [.ref (n0 + 113), .int (nI j), .int (nI p), .int (nI q)] (κ, μ, o) (some (.int 0)) (κ, up μ 0 0 2, o) := by
  refine HM.of (by decide) (by simp [Value.category]) (by simp) (Or.inr (Or.inl ⟨_, .int, rfl, rfl, rfl⟩)) ?_
  intro pp ee ss mm aa bb me cd Q C K hret
  show ZZ pp l ee (rmk 2 49) ss mm aa bb me cd D n0 127 5 0 0 Q _ 0 [some (.ref (n0 + 113)), some (.int (nI j)), some (.int (nI p)), some (.int (nI q)), none] []
  refine z_aload_n C rfl dX5_discard_0 ?_
  refine z_aload_n C rfl dX5_discard_1 ?_
  refine z_iload_n C rfl dX5_discard_2 ?_
  refine z_callV (As := [.int (nI j)]) (r := (some (.int (b2i (!decide (μ 1 j = 0)))))) (σ1 := (κ, μ, o)) (st := [.ref (n0 + 113)]) (st1 := [.int (b2i (!decide (μ 1 j = 0))), .ref (n0 + 113)]) C K ok_X5_126 (c_X5_isVolume l D n0 κ μ o j (by omega)) enc_M (by decide) rfl rfl ⟨by decide, by decide⟩ ⟨Nat.zero_le _, Nat.zero_le _⟩ (by simp [Value.category]) dX5_discard_3 rfl rfl ?_
  refine z_if_eq (tgt := 39) C dX5_discard_6 (by decide) (fun h_6 => ?_) (fun h_6 => ?_)
  · have g_6 := cv_b0 h_6
    exact absurd g_6 (by simp [h1])
  · have g_6 := cv_b1 h_6
    refine z_iload_n C rfl dX5_discard_9 ?_
    refine z_if_lt (tgt := 39) C dX5_discard_10 (by decide) (fun h_10 => ?_) (fun h_10 => ?_)
    · exact absurd h_10 (nI_pos (by omega))
    · skip
      refine z_iload_n C rfl dX5_discard_13 ?_
      refine z_if_lt (tgt := 39) C dX5_discard_14 (by decide) (fun h_14 => ?_) (fun h_14 => ?_)
      · exact absurd h_14 (nI_pos (by omega))
      · skip
        refine z_iload_n C rfl dX5_discard_17 ?_
        refine z_aload_n C rfl dX5_discard_18 ?_
        refine gf_X5_13 C dX5_discard_19 ?_
        refine z_iload_n C rfl dX5_discard_22 ?_
        refine al_115 (v := nI z) C (j) rfl (by omega) hz dX5_discard_23 ?_
        refine z_icmp_gt (tgt := 39) C dX5_discard_24 (by decide) (fun h_24 => ?_) (fun h_24 => ?_)
        · have g_24 := cv_lt (a := z) (b := p) (by omega) (by omega) h_24
          exact absurd g_24 (by omega)
        · have g_24 := cv_nlt (a := z) (b := p) (by omega) (by omega) h_24
          refine z_iload_n C rfl dX5_discard_27 ?_
          refine z_aload_n C rfl dX5_discard_28 ?_
          refine gf_X5_13 C dX5_discard_29 ?_
          refine z_iload_n C rfl dX5_discard_32 ?_
          refine al_115 (v := nI z) C (j) rfl (by omega) hz dX5_discard_33 ?_
          refine z_iload_n C rfl dX5_discard_34 ?_
          refine z_isub (v := nI (z - p)) C (cv_sub (by omega)) dX5_discard_35 ?_
          refine z_icmp_le (tgt := 43) C dX5_discard_36 (by decide) (fun h_36 => ?_) (fun h_36 => ?_)
          · have g_36 := cv_le (a := q) (b := z - p) (by omega) (by omega) h_36
            refine z_aload_n C rfl dX5_discard_43 ?_
            refine z_iload_n C rfl dX5_discard_44 ?_
            refine z_iload_n C rfl dX5_discard_45 ?_
            refine z_iload_n C rfl dX5_discard_46 ?_
            refine z_iload_n C rfl dX5_discard_47 ?_
            refine z_iadd (v := nI (p + q)) C (cv_add p q) dX5_discard_48 ?_
            refine z_callV (As := [.int (nI j), .int (nI p), .int (nI (p + q))]) (r := (some (.int (b2i (mWIn μ n j p (p + q - p)))))) (σ1 := (κ, μ, o)) (st := [.ref (n0 + 113)]) (st1 := [.int (b2i (mWIn μ n j p (p + q - p))), .ref (n0 + 113)]) C K ok_X5_153 (c_X5_waitsIn l D n0 κ μ o n j p (p + q) hn hn8 (by omega) (by omega)) enc_M (by decide) rfl rfl ⟨by decide, by decide⟩ ⟨Nat.zero_le _, Nat.zero_le _⟩ (by simp [Value.category]) dX5_discard_49 rfl rfl ?_
            refine z_if_eq (tgt := 59) C dX5_discard_52 (by decide) (fun h_52 => ?_) (fun h_52 => ?_)
            · have g_52 := cv_b0 h_52
              exact absurd g_52 (by rw [hw]; decide)
            · have g_52 := cv_b1 h_52
              refine z_iconst (v := 2) C (by decide +kernel) dX5_discard_55 ?_
              refine z_goto (tgt := 60) C dX5_discard_56 (by decide) ?_
              refine pf_X5_51 (x := 2) C dX5_discard_60 ?_
              refine z_aload_n C rfl dX5_discard_63 ?_
              refine gf_X5_51 (v := 2) C rfl dX5_discard_64 ?_
              refine z_if_le (tgt := 72) C dX5_discard_67 (by decide) (fun h_67 => ?_) (fun h_67 => ?_)
              · exact absurd h_67 (by decide +kernel)
              · skip
                refine z_iconst (v := 0) C (by decide +kernel) dX5_discard_70 ?_
                exact z_endI (hret _ _ dX5_discard_71) rfl rfl
          · have g_36 := cv_nle (a := q) (b := z - p) (by omega) (by omega) h_36
            exact absurd g_36 (by omega)
set_option maxHeartbeats 4000000 in
set_option maxRecDepth 100000 in
theorem c_X5_discard (l : Launch) (D : DD) (n0 : Nat) (κ μ : KH) (o : Int64) (j p q z n : Nat) (hj : j < 16) (h1 : μ 1 j ≠ 0) (hz : μ 2 j = nI z) (hz40 : z ≤ 40) (hpq : p + q ≤ z) (hn : μ 0 23 = nI n) (hn8 : n ≤ 8) (hw : mWIn μ n j p (p + q - p) = false) (y : KH) (hy : y = up μ 0 0 0) (hD1 : mD (mUnm y j p (p + q)) (nQ (mUnm y j p (p + q)))) : HM l D n0 yX5_discard cX5_discard 5 (some .int) 7 165 [.ref (n0 + 113), .int (nI j), .int (nI p), .int (nI q)] (κ, μ, o) (some (.int (nI (mUmC y j p (p + q))))) (κ, mDrain (mUnm y j p (p + q)), o) := by
  refine HM.of (by decide) (by simp [Value.category]) (by simp) (Or.inr (Or.inl ⟨_, .int, rfl, rfl, rfl⟩)) ?_
  intro pp ee ss mm aa bb me cd Q C K hret
  show ZZ pp l ee (rmk 7 165) ss mm aa bb me cd D n0 127 5 0 0 Q _ 0 [some (.ref (n0 + 113)), some (.int (nI j)), some (.int (nI p)), some (.int (nI q)), none] []
  refine z_aload_n C rfl dX5_discard_0 ?_
  refine z_aload_n C rfl dX5_discard_1 ?_
  refine z_iload_n C rfl dX5_discard_2 ?_
  refine z_callV (As := [.int (nI j)]) (r := (some (.int (b2i (!decide (μ 1 j = 0)))))) (σ1 := (κ, μ, o)) (st := [.ref (n0 + 113)]) (st1 := [.int (b2i (!decide (μ 1 j = 0))), .ref (n0 + 113)]) C K ok_X5_126 (c_X5_isVolume l D n0 κ μ o j (by omega)) enc_M (by decide) rfl rfl ⟨by decide, by decide⟩ ⟨Nat.zero_le _, Nat.zero_le _⟩ (by simp [Value.category]) dX5_discard_3 rfl rfl ?_
  refine z_if_eq (tgt := 39) C dX5_discard_6 (by decide) (fun h_6 => ?_) (fun h_6 => ?_)
  · have g_6 := cv_b0 h_6
    exact absurd g_6 (by simp [h1])
  · have g_6 := cv_b1 h_6
    refine z_iload_n C rfl dX5_discard_9 ?_
    refine z_if_lt (tgt := 39) C dX5_discard_10 (by decide) (fun h_10 => ?_) (fun h_10 => ?_)
    · exact absurd h_10 (nI_pos (by omega))
    · skip
      refine z_iload_n C rfl dX5_discard_13 ?_
      refine z_if_lt (tgt := 39) C dX5_discard_14 (by decide) (fun h_14 => ?_) (fun h_14 => ?_)
      · exact absurd h_14 (nI_pos (by omega))
      · skip
        refine z_iload_n C rfl dX5_discard_17 ?_
        refine z_aload_n C rfl dX5_discard_18 ?_
        refine gf_X5_13 C dX5_discard_19 ?_
        refine z_iload_n C rfl dX5_discard_22 ?_
        refine al_115 (v := nI z) C (j) rfl (by omega) hz dX5_discard_23 ?_
        refine z_icmp_gt (tgt := 39) C dX5_discard_24 (by decide) (fun h_24 => ?_) (fun h_24 => ?_)
        · have g_24 := cv_lt (a := z) (b := p) (by omega) (by omega) h_24
          exact absurd g_24 (by omega)
        · have g_24 := cv_nlt (a := z) (b := p) (by omega) (by omega) h_24
          refine z_iload_n C rfl dX5_discard_27 ?_
          refine z_aload_n C rfl dX5_discard_28 ?_
          refine gf_X5_13 C dX5_discard_29 ?_
          refine z_iload_n C rfl dX5_discard_32 ?_
          refine al_115 (v := nI z) C (j) rfl (by omega) hz dX5_discard_33 ?_
          refine z_iload_n C rfl dX5_discard_34 ?_
          refine z_isub (v := nI (z - p)) C (cv_sub (by omega)) dX5_discard_35 ?_
          refine z_icmp_le (tgt := 43) C dX5_discard_36 (by decide) (fun h_36 => ?_) (fun h_36 => ?_)
          · have g_36 := cv_le (a := q) (b := z - p) (by omega) (by omega) h_36
            refine z_aload_n C rfl dX5_discard_43 ?_
            refine z_iload_n C rfl dX5_discard_44 ?_
            refine z_iload_n C rfl dX5_discard_45 ?_
            refine z_iload_n C rfl dX5_discard_46 ?_
            refine z_iload_n C rfl dX5_discard_47 ?_
            refine z_iadd (v := nI (p + q)) C (cv_add p q) dX5_discard_48 ?_
            refine z_callV (As := [.int (nI j), .int (nI p), .int (nI (p + q))]) (r := (some (.int (b2i (mWIn μ n j p (p + q - p)))))) (σ1 := (κ, μ, o)) (st := [.ref (n0 + 113)]) (st1 := [.int (b2i (mWIn μ n j p (p + q - p))), .ref (n0 + 113)]) C K ok_X5_153 (c_X5_waitsIn l D n0 κ μ o n j p (p + q) hn hn8 (by omega) (by omega)) enc_M (by decide) rfl rfl ⟨by decide, by decide⟩ ⟨Nat.zero_le _, Nat.zero_le _⟩ (by simp [Value.category]) dX5_discard_49 rfl rfl ?_
            refine z_if_eq (tgt := 59) C dX5_discard_52 (by decide) (fun h_52 => ?_) (fun h_52 => ?_)
            · have g_52 := cv_b0 h_52
              refine z_iconst (v := 0) C (by decide +kernel) dX5_discard_59 ?_
              refine pf_X5_51 (x := 0) C dX5_discard_60 ?_
              rw [← hy]
              refine z_aload_n C rfl dX5_discard_63 ?_
              refine gf_X5_51 (v := 0) C (by rw [hy]; exact up_self) dX5_discard_64 ?_
              refine z_if_le (tgt := 72) C dX5_discard_67 (by decide) (fun h_67 => ?_) (fun h_67 => ?_)
              · skip
                refine z_aload_n C rfl dX5_discard_72 ?_
                refine z_iload_n C rfl dX5_discard_73 ?_
                refine z_iload_n C rfl dX5_discard_74 ?_
                refine z_iload_n C rfl dX5_discard_75 ?_
                refine z_iload_n C rfl dX5_discard_76 ?_
                refine z_iadd (v := nI (p + q)) C (cv_add p q) dX5_discard_77 ?_
                refine z_callV (As := [.int (nI j), .int (nI p), .int (nI (p + q))]) (r := (some (.int (nI (mUmC y j p (p + q)))))) (σ1 := (κ, mUnm y j p (p + q), o)) (st := []) (st1 := [.int (nI (mUmC y j p (p + q)))]) C K ok_X5_157 (c_X5_unmap l D n0 κ y o j p (p + q) hj (by omega) (by omega)) enc_M (by decide) rfl rfl ⟨by decide, by decide⟩ ⟨Nat.zero_le _, Nat.zero_le _⟩ (by simp [Value.category]) dX5_discard_78 rfl rfl ?_
                refine z_istore (ls' := [some (.ref (n0 + 113)), some (.int (nI j)), some (.int (nI p)), some (.int (nI q)), some (.int (nI (mUmC y j p (p + q))))]) C (by decide) rfl dX5_discard_81 ?_
                refine z_aload_n C rfl dX5_discard_83 ?_
                refine z_callV (As := []) (r := none) (σ1 := (κ, mDrain (mUnm y j p (p + q)), o)) (st := []) (st1 := []) C K ok_X5_150 (c_X5_drain l D n0 κ (mUnm y j p (p + q)) o hD1) enc_M (by decide) rfl rfl ⟨by decide, by decide⟩ ⟨Nat.zero_le _, Nat.zero_le _⟩ (by simp [Value.category]) dX5_discard_84 rfl rfl ?_
                refine z_iload C rfl dX5_discard_87 ?_
                exact z_endI (hret _ _ dX5_discard_89) rfl rfl
              · exact absurd h_67 (by decide +kernel)
            · have g_52 := cv_b1 h_52
              exact absurd g_52 (by rw [hw]; decide)
          · have g_36 := cv_nle (a := q) (b := z - p) (by omega) (by omega) h_36
            exact absurd g_36 (by omega)
