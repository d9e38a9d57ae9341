/-! what the model's methods answer, in words of its cells μ: μ 0 its own numbers, μ 1 there, 2 size, 3 backed, 4 quota, 5 origin, 6 map, 7 mark, 8 words, 9 backing, 10 .. 12 the queue -/
def b2i (b : Bool) : Int32 := cond b 1 0
theorem b2i_01 (b : Bool) : b2i b = 0 ∨ b2i b = 1 := by
  cases b
  · exact Or.inl rfl
  · exact Or.inr rfl
theorem b2i_nar (b : Bool) : narrow .boolean (.int (b2i b)) = .int (b2i b) := by cases b <;> decide +kernel
theorem cv_b0 {b : Bool} (h : b2i b = 0) : b = false := by
  cases b
  · rfl
  · exact absurd h (by decide +kernel)
theorem cv_b1 {b : Bool} (h : ¬ b2i b = 0) : b = true := by
  cases b
  · exact absurd rfl h
  · rfl
theorem b2i_1 {b : Bool} (h : b = true) : (1 : Int32) = b2i b := by rw [h]; rfl
theorem b2i_0 {b : Bool} (h : b = false) : (0 : Int32) = b2i b := by rw [h]; rfl
theorem isS_lt {b : Nat} (h : isS b) : b < 127 := by rcases h with rfl | rfl | rfl <;> decide
theorem isV_lt {k : Nat} (h : isV k) : k < 127 := by have := h.2.1; omega
theorem nI_m1 {n : Nat} (h : n < 2 ^ 31) : ¬ nI n = -1 := fun q => nI_pos h (by rw [q]; decide +kernel)
def sumTo (f : Nat → Nat) : Nat → Nat
  | 0 => 0
  | n + 1 => sumTo f n + f n
theorem sumTo_le {f : Nat → Nat} {b : Nat} (h : ∀ i, f i ≤ b) : ∀ n, sumTo f n ≤ b * n
  | 0 => Nat.zero_le _
  | n + 1 => by
    have h1 := sumTo_le h n
    have h2 := h n
    rw [sumTo, Nat.mul_add]
    omega
theorem sumTo_congr {f g : Nat → Nat} : ∀ n, (∀ i, i < n → f i = g i) → sumTo f n = sumTo g n
  | 0, _ => rfl
  | n + 1, h => by rw [sumTo, sumTo, sumTo_congr n (fun i hi => h i (by omega)), h n (by omega)]
def iterK (f : Nat → KH → KH) : Nat → KH → KH
  | 0, μ => μ
  | n + 1, μ => f n (iterK f n μ)
def vNum (v : Int32) : Bool := !decide (v < 0) && !decide (16 ≤ v)
def vSiz (s : Int32) : Bool := !decide (s < 1) && !decide (40 < s)
def mG (μ : KH) (s v : Nat) (e : Int32) (p : Nat) : Nat := if μ 6 (40 * (16 * s + v) + p) = e then 1 else 0
def mF (μ : KH) (s : Nat) (e : Int32) (v : Nat) : Nat := if μ 1 (16 * s + v) = 0 then 0 else sumTo (mG μ s v e) 40
/-- how many places of a state are mapped to an extent -/
def mUse (μ : KH) (s : Nat) (e : Int32) : Nat := sumTo (mF μ s e) 16
theorem mG_le (μ : KH) (s v : Nat) (e : Int32) (p : Nat) : mG μ s v e p ≤ 1 := by unfold mG; split <;> omega
theorem mF_le (μ : KH) (s : Nat) (e : Int32) (v : Nat) : mF μ s e v ≤ 40 := by
  unfold mF
  split
  · omega
  · exact Nat.le_trans (sumTo_le (mG_le μ s v e) 40) (by omega)
theorem mUse_le (μ : KH) (s : Nat) (e : Int32) : mUse μ s e ≤ 640 := Nat.le_trans (sumTo_le (mF_le μ s e) 16) (by omega)
def mFree (μ : KH) (e : Int32) : Bool := decide (mUse μ 0 e + mUse μ 1 e + mUse μ 2 e = 0)
def mSole (μ : KH) (e : Int32) : Bool := decide (mUse μ 0 e = 1) && decide (mUse μ 1 e + mUse μ 2 e = 0)
def mFr1 (μ : KH) (e : Nat) : Nat := if mFree μ (nI e) = true then 1 else 0
def mFM (μ : KH) (n : Nat) : Nat := sumTo (mFr1 μ) n
theorem mFr1_le (μ : KH) (e : Nat) : mFr1 μ e ≤ 1 := by unfold mFr1; split <;> omega
theorem mFM_le (μ : KH) (n : Nat) : mFM μ n ≤ n := Nat.le_trans (sumTo_le (mFr1_le μ) n) (by omega)
def mMp1 (μ : KH) (v p : Nat) : Nat := if μ 6 (40 * v + p) = -1 then 0 else 1
def mMap (μ : KH) (v : Nat) : Nat := sumTo (mMp1 μ v) 40
theorem mMp1_le (μ : KH) (v p : Nat) : mMp1 μ v p ≤ 1 := by unfold mMp1; split <;> omega
theorem mMap_le (μ : KH) (v : Nat) : mMap μ v ≤ 40 := Nat.le_trans (sumTo_le (mMp1_le μ v) 40) (by omega)
def mTh1 (μ : KH) (s v : Nat) : Nat := if μ 1 (16 * s + v) = 0 then 0 else 1
def mVol (μ : KH) (s : Nat) : Nat := sumTo (mTh1 μ s) 16
def mNeed (μ : KH) (v p : Nat) : Bool := decide (μ 6 (40 * v + p) = -1) || !mSole μ (μ 6 (40 * v + p))
def mOver (μ : KH) (v p : Nat) : Bool := decide (μ 6 (40 * v + p) = -1) && !decide (μ 4 v = -1) && !decide (nI (mMap μ v) < μ 4 v)
def mWord (μ : KH) (v w : Nat) : Int32 := if μ 6 (40 * v + w / 4) = -1 then (if μ 3 v = 0 then 0 else μ 9 w) else μ 8 (4 * (μ 6 (40 * v + w / 4)).toNatClampNeg + w % 4)
/-- an entry of the map: none, or an extent's number -/
def isX (x : Int32) : Prop := x = -1 ∨ ∃ k : Nat, k < 96 ∧ x = nI k
def is01 (x : Int32) : Prop := x = 0 ∨ x = 1
def mClr (s : Nat) (i : Nat) (μ : KH) : KH := up μ 1 (16 * s + i) 0
def mCpM (a b p : Nat) (μ : KH) : KH := up μ 6 (40 * b + p) (μ 6 (40 * a + p))
def mCpV (μ : KH) (a b : Nat) : KH := iterK (mCpM a b) 40 (up (up (up (up μ 1 b (μ 1 a)) 2 b (μ 2 a)) 3 b (μ 3 a)) 4 b (μ 4 a))
def mCp1 (s t v : Nat) (μ : KH) : KH := up (mCpV μ (16 * s + v) (16 * t + v)) 5 (16 * t + v) (mCpV μ (16 * s + v) (16 * t + v) 5 (16 * s + v))
def mCp (μ : KH) (s t : Nat) : KH := up (iterK (mCp1 s t) 16 μ) 7 t (iterK (mCp1 s t) 16 μ 7 s)
theorem vNum_nI {v : Nat} (h : v < 16) : vNum (nI v) = true := by
  have h1 : ¬ nI v < 0 := nI_pos (by omega)
  have h2 : ¬ (16 : Int32) ≤ nI v := nI_ge (b := 16) (a := v) h (by omega)
  simp [vNum, h1, h2]
set_option maxHeartbeats 4000000 in
set_option maxRecDepth 100000 in
theorem c_X5_isNumber (l : Launch) (D : DD) (n0 : Nat) (κ μ : KH) (o : Int64) (v : Int32) : HM l D n0 yX5_isNumber cX5_isNumber 1 (some .boolean) 0 0 [.int v] (κ, μ, o) (some (.int (b2i (vNum v)))) (κ, μ, o) := by
  refine HM.of (by decide) (by simp [Value.category]) (by simp) (Or.inr (Or.inl ⟨_, .boolean, rfl, rfl, (b2i_nar _)⟩)) ?_
  intro pp ee ss mm aa bb me cd Q C K hret
  show ZZ pp l ee (rmk 0 0) ss mm aa bb me cd D n0 127 1 0 0 Q _ 0 [some (.int v)] []
  refine z_iload_n C rfl dX5_isNumber_0 ?_
  refine z_if_lt (tgt := 14) C dX5_isNumber_1 (by decide) (fun h_1 => ?_) (fun h_1 => ?_)
  · skip
    refine z_iconst (v := 0) C (by decide +kernel) dX5_isNumber_14 ?_
    exact z_endI (hret _ _ dX5_isNumber_15) (b2i_0 (by simp [vNum, h_1])) rfl
  · skip
    refine z_iload_n C rfl dX5_isNumber_4 ?_
    refine z_bipush (v := 16) C (by decide +kernel) dX5_isNumber_5 ?_
    refine z_icmp_ge (tgt := 14) C dX5_isNumber_7 (by decide) (fun h_7 => ?_) (fun h_7 => ?_)
    · skip
      refine z_iconst (v := 0) C (by decide +kernel) dX5_isNumber_14 ?_
      exact z_endI (hret _ _ dX5_isNumber_15) (b2i_0 (by simp [vNum, h_7])) rfl
    · skip
      refine z_iconst (v := 1) C (by decide +kernel) dX5_isNumber_10 ?_
      refine z_goto (tgt := 15) C dX5_isNumber_11 (by decide) ?_
      exact z_endI (hret _ _ dX5_isNumber_15) (b2i_1 (by simp [vNum, h_1, h_7])) rfl
set_option maxHeartbeats 4000000 in
set_option maxRecDepth 100000 in
theorem c_X5_isSize (l : Launch) (D : DD) (n0 : Nat) (κ μ : KH) (o : Int64) (v : Int32) : HM l D n0 yX5_isSize cX5_isSize 1 (some .boolean) 0 0 [.int v] (κ, μ, o) (some (.int (b2i (vSiz v)))) (κ, μ, o) := by
  refine HM.of (by decide) (by simp [Value.category]) (by simp) (Or.inr (Or.inl ⟨_, .boolean, rfl, rfl, (b2i_nar _)⟩)) ?_
  intro pp ee ss mm aa bb me cd Q C K hret
  show ZZ pp l ee (rmk 0 0) ss mm aa bb me cd D n0 127 1 0 0 Q _ 0 [some (.int v)] []
  refine z_iload_n C rfl dX5_isSize_0 ?_
  refine z_iconst (v := 1) C (by decide +kernel) dX5_isSize_1 ?_
  refine z_icmp_lt (tgt := 15) C dX5_isSize_2 (by decide) (fun h_2 => ?_) (fun h_2 => ?_)
  · skip
    refine z_iconst (v := 0) C (by decide +kernel) dX5_isSize_15 ?_
    exact z_endI (hret _ _ dX5_isSize_16) (b2i_0 (by simp [vSiz, h_2])) rfl
  · skip
    refine z_iload_n C rfl dX5_isSize_5 ?_
    refine z_bipush (v := 40) C (by decide +kernel) dX5_isSize_6 ?_
    refine z_icmp_gt (tgt := 15) C dX5_isSize_8 (by decide) (fun h_8 => ?_) (fun h_8 => ?_)
    · skip
      refine z_iconst (v := 0) C (by decide +kernel) dX5_isSize_15 ?_
      exact z_endI (hret _ _ dX5_isSize_16) (b2i_0 (by simp [vSiz, h_8])) rfl
    · skip
      refine z_iconst (v := 1) C (by decide +kernel) dX5_isSize_11 ?_
      refine z_goto (tgt := 16) C dX5_isSize_12 (by decide) ?_
      exact z_endI (hret _ _ dX5_isSize_16) (b2i_1 (by simp [vSiz, h_2, h_8])) rfl
set_option maxHeartbeats 4000000 in
set_option maxRecDepth 100000 in
theorem c_X5_isVolume_n (l : Launch) (D : DD) (n0 : Nat) (κ μ : KH) (o : Int64) (v : Int32) (hv : vNum v = false) : HM l D n0 yX5_isVolume cX5_isVolume 2 (some .boolean) 1 20 [.ref (n0 + 113), .int v] (κ, μ, o) (some (.int 0)) (κ, μ, o) := by
  refine HM.of (by decide) (by simp [Value.category]) (by simp) (Or.inr (Or.inl ⟨_, .boolean, rfl, rfl, (by decide +kernel)⟩)) ?_
  intro pp ee ss mm aa bb me cd Q C K hret
  show ZZ pp l ee (rmk 1 20) ss mm aa bb me cd D n0 127 2 0 0 Q _ 0 [some (.ref (n0 + 113)), some (.int v)] []
  refine z_iload_n C rfl dX5_isVolume_0 ?_
  refine z_callS (As := [.int v]) (r := (some (.int (b2i (vNum v))))) (σ1 := (κ, μ, o)) (st := []) (st1 := [.int (b2i (vNum v))]) C K ok_X5_54 (c_X5_isNumber l D n0 κ μ o v) rfl ⟨by decide, by decide⟩ ⟨Nat.zero_le _, Nat.zero_le _⟩ (by simp [Value.category]) dX5_isVolume_1 rfl rfl ?_
  refine z_if_eq (tgt := 20) C dX5_isVolume_4 (by decide) (fun h_4 => ?_) (fun h_4 => ?_)
  · have g_4 := cv_b0 h_4
    refine z_iconst (v := 0) C (by decide +kernel) dX5_isVolume_20 ?_
    exact z_endI (hret _ _ dX5_isVolume_21) rfl rfl
  · have g_4 := cv_b1 h_4
    exact absurd g_4 (by rw [hv]; decide)
set_option maxHeartbeats 4000000 in
set_option maxRecDepth 100000 in
theorem c_X5_isVolume (l : Launch) (D : DD) (n0 : Nat) (κ μ : KH) (o : Int64) (v : Nat) (hv : v < 16) : HM l D n0 yX5_isVolume cX5_isVolume 2 (some .boolean) 1 20 [.ref (n0 + 113), .int (nI v)] (κ, μ, o) (some (.int (b2i (!decide (μ 1 v = 0))))) (κ, μ, o) := by
  refine HM.of (by decide) (by simp [Value.category]) (by simp) (Or.inr (Or.inl ⟨_, .boolean, rfl, rfl, (b2i_nar _)⟩)) ?_
  intro pp ee ss mm aa bb me cd Q C K hret
  show ZZ pp l ee (rmk 1 20) ss mm aa bb me cd D n0 127 2 0 0 Q _ 0 [some (.ref (n0 + 113)), some (.int (nI v))] []
  have hvn : vNum (nI v) = true := vNum_nI hv
  refine z_iload_n C rfl dX5_isVolume_0 ?_
  refine z_callS (As := [.int (nI v)]) (r := (some (.int (b2i (vNum (nI v)))))) (σ1 := (κ, μ, o)) (st := []) (st1 := [.int (b2i (vNum (nI v)))]) C K ok_X5_54 (c_X5_isNumber l D n0 κ μ o (nI v)) rfl ⟨by decide, by decide⟩ ⟨Nat.zero_le _, Nat.zero_le _⟩ (by simp [Value.category]) dX5_isVolume_1 rfl rfl ?_
  refine z_if_eq (tgt := 20) C dX5_isVolume_4 (by decide) (fun h_4 => ?_) (fun h_4 => ?_)
  · have g_4 := cv_b0 h_4
    exact absurd hvn (by rw [g_4]; decide)
  · have g_4 := cv_b1 h_4
    refine z_aload_n C rfl dX5_isVolume_7 ?_
    refine gf_X5_7 C dX5_isVolume_8 ?_
    refine z_iload_n C rfl dX5_isVolume_11 ?_
    refine al_114 (v := μ 1 v) C (v) rfl (by omega) rfl dX5_isVolume_12 ?_
    refine z_if_eq (tgt := 20) C dX5_isVolume_13 (by decide) (fun h_13 => ?_) (fun h_13 => ?_)
    · skip
      refine z_iconst (v := 0) C (by decide +kernel) dX5_isVolume_20 ?_
      exact z_endI (hret _ _ dX5_isVolume_21) (b2i_0 (by simp [h_13])) rfl
    · skip
      refine z_iconst (v := 1) C (by decide +kernel) dX5_isVolume_16 ?_
      refine z_goto (tgt := 21) C dX5_isVolume_17 (by decide) ?_
      exact z_endI (hret _ _ dX5_isVolume_21) (b2i_1 (by simp [h_13])) rfl
set_option maxHeartbeats 4000000 in
set_option maxRecDepth 100000 in
theorem c_X5_at (l : Launch) (D : DD) (n0 : Nat) (κ μ : KH) (o : Int64) (a b c : Nat) : HM l D n0 yX5_at cX5_at 3 (some .int) 0 0 [.int (nI a), .int (nI b), .int (nI c)] (κ, μ, o) (some (.int (nI (40 * (16 * a + b) + c)))) (κ, μ, o) := by
  refine HM.of (by decide) (by simp [Value.category]) (by simp) (Or.inr (Or.inl ⟨_, .int, rfl, rfl, rfl⟩)) ?_
  intro pp ee ss mm aa bb me cd Q C K hret
  show ZZ pp l ee (rmk 0 0) ss mm aa bb me cd D n0 127 3 0 0 Q _ 0 [some (.int (nI a)), some (.int (nI b)), some (.int (nI c))] []
  refine z_bipush (v := 40) C (by decide +kernel) dX5_at_0 ?_
  refine z_bipush (v := 16) C (by decide +kernel) dX5_at_2 ?_
  refine z_iload_n C rfl dX5_at_4 ?_
  refine z_imul (v := nI (16 * a)) C (cv_mul 16 a) dX5_at_5 ?_
  refine z_iload_n C rfl dX5_at_6 ?_
  refine z_iadd (v := nI (16 * a + b)) C (cv_add (16 * a) b) dX5_at_7 ?_
  refine z_imul (v := nI (40 * (16 * a + b))) C (cv_mul 40 (16 * a + b)) dX5_at_8 ?_
  refine z_iload_n C rfl dX5_at_9 ?_
  refine z_iadd (v := nI (40 * (16 * a + b) + c)) C (cv_add (40 * (16 * a + b)) c) dX5_at_10 ?_
  exact z_endI (hret _ _ dX5_at_11) rfl rfl
set_option maxHeartbeats 4000000 in
set_option maxRecDepth 100000 in
theorem c_X5_at0 (l : Launch) (D : DD) (n0 : Nat) (κ μ : KH) (o : Int64) (b c : Nat) : HM l D n0 yX5_at cX5_at 3 (some .int) 0 0 [.int 0, .int (nI b), .int (nI c)] (κ, μ, o) (some (.int (nI (40 * b + c)))) (κ, μ, o) := by
  refine HM.of (by decide) (by simp [Value.category]) (by simp) (Or.inr (Or.inl ⟨_, .int, rfl, rfl, rfl⟩)) ?_
  intro pp ee ss mm aa bb me cd Q C K hret
  show ZZ pp l ee (rmk 0 0) ss mm aa bb me cd D n0 127 3 0 0 Q _ 0 [some (.int 0), some (.int (nI b)), some (.int (nI c))] []
  refine z_bipush (v := 40) C (by decide +kernel) dX5_at_0 ?_
  refine z_bipush (v := 16) C (by decide +kernel) dX5_at_2 ?_
  refine z_iload_n C rfl dX5_at_4 ?_
  refine z_imul (v := 0) C (by decide +kernel) dX5_at_5 ?_
  refine z_iload_n C rfl dX5_at_6 ?_
  refine z_iadd (v := nI (0 + b)) C (cv_add 0 b) dX5_at_7 ?_
  refine z_imul (v := nI (40 * (0 + b))) C (cv_mul 40 (0 + b)) dX5_at_8 ?_
  refine z_iload_n C rfl dX5_at_9 ?_
  refine z_iadd (v := nI (40 * (0 + b) + c)) C (cv_add (40 * (0 + b)) c) dX5_at_10 ?_
  exact z_endI (hret _ _ dX5_at_11) (by rw [Nat.zero_add]) rfl
set_option maxHeartbeats 4000000 in
set_option maxRecDepth 100000 in
theorem c_X5_usersOf (l : Launch) (D : DD) (n0 : Nat) (κ μ : KH) (o : Int64) (s : Nat) (e : Int32) (hs : s < 3) : HM l D n0 yX5_usersOf cX5_usersOf 6 (some .int) 1 22 [.ref (n0 + 113), .int (nI s), .int e] (κ, μ, o) (some (.int (nI (mUse μ s e)))) (κ, μ, o) := by
  refine HM.of (by decide) (by simp [Value.category]) (by simp) (Or.inr (Or.inl ⟨_, .int, rfl, rfl, rfl⟩)) ?_
  intro pp ee ss mm aa bb me cd Q C K hret
  show ZZ pp l ee (rmk 1 22) ss mm aa bb me cd D n0 127 6 0 0 Q _ 0 [some (.ref (n0 + 113)), some (.int (nI s)), some (.int e), none, none, none] []
  refine z_iconst (v := 0) C (by decide +kernel) dX5_usersOf_0 ?_
  refine z_istore_n (ls' := [some (.ref (n0 + 113)), some (.int (nI s)), some (.int e), some (.int 0), none, none]) C (by decide) rfl dX5_usersOf_1 ?_
  refine z_iconst (v := 0) C (by decide +kernel) dX5_usersOf_2 ?_
  refine z_istore (ls' := [some (.ref (n0 + 113)), some (.int (nI s)), some (.int e), some (.int 0), some (.int 0), none]) C (by decide) rfl dX5_usersOf_3 ?_
  refine z_cast (σ1 := (κ, μ, o)) (ls' := [some (.ref (n0 + 113)), some (.int (nI s)), some (.int e), some (.int (nI (sumTo (mF μ s e) 0))), some (.int (nI 0)), none]) (st' := []) (z_for (P := fun i => ZZ pp l ee (rmk 1 22) ss mm aa bb me cd D n0 127 6 0 0 Q (κ, μ, o) 5 [some (.ref (n0 + 113)), some (.int (nI s)), some (.int e), some (.int (nI (sumTo (mF μ s e) i))), some (.int (nI i)), none] []) (16) ?_ ?_ 0 (Nat.zero_le _)) rfl ⟨rfl, rfl, rfl, rfl, rfl, trivial⟩ rfl
  · skip
    refine z_iload C rfl dX5_usersOf_5 ?_
    refine z_bipush (v := 16) C (by decide +kernel) dX5_usersOf_7 ?_
    refine z_icmp_ge (tgt := 74) C dX5_usersOf_9 (by decide) (fun h_9 => ?_) (fun h_9 => ?_)
    · have g_9 := cv_le (a := 16) (b := 16) (by omega) (by omega) h_9
      refine z_iload_n C rfl dX5_usersOf_74 ?_
      exact z_endI (hret _ _ dX5_usersOf_75) rfl rfl
    · have g_9 := cv_nle (a := 16) (b := 16) (by omega) (by omega) h_9
      exact absurd g_9 (by omega)
  · intro i hi_5 ih_5
    refine z_iload C rfl dX5_usersOf_5 ?_
    refine z_bipush (v := 16) C (by decide +kernel) dX5_usersOf_7 ?_
    refine z_icmp_ge (tgt := 74) C dX5_usersOf_9 (by decide) (fun h_9 => ?_) (fun h_9 => ?_)
    · have g_9 := cv_le (a := 16) (b := i) (by omega) (by omega) h_9
      exact absurd hi_5 (by omega)
    · have g_9 := cv_nle (a := 16) (b := i) (by omega) (by omega) h_9
      by_cases hth : μ 1 (16 * s + i) = 0
      · skip
        refine z_iconst (v := 0) C (by decide +kernel) dX5_usersOf_12 ?_
        refine z_istore (ls' := [some (.ref (n0 + 113)), some (.int (nI s)), some (.int e), some (.int (nI (sumTo (mF μ s e) i))), some (.int (nI i)), some (.int 0)]) C (by decide) rfl dX5_usersOf_13 ?_
        refine z_iload C rfl dX5_usersOf_15 ?_
        refine z_bipush (v := 40) C (by decide +kernel) dX5_usersOf_17 ?_
        refine z_icmp_ge (tgt := 68) C dX5_usersOf_19 (by decide) (fun h_19 => ?_) (fun h_19 => ?_)
        · exact absurd h_19 (by decide +kernel)
        · skip
          refine z_aload_n C rfl dX5_usersOf_22 ?_
          refine gf_X5_7 C dX5_usersOf_23 ?_
          refine z_bipush (v := 16) C (by decide +kernel) dX5_usersOf_26 ?_
          refine z_iload_n C rfl dX5_usersOf_28 ?_
          refine z_imul (v := nI (16 * s)) C (cv_mul 16 s) dX5_usersOf_29 ?_
          refine z_iload C rfl dX5_usersOf_30 ?_
          refine z_iadd (v := nI (16 * s + i)) C (cv_add (16 * s) i) dX5_usersOf_32 ?_
          refine al_114 (v := μ 1 (16 * s + i)) C (16 * s + i) rfl (by omega) rfl dX5_usersOf_33 ?_
          refine z_if_eq (tgt := 68) C dX5_usersOf_34 (by decide) (fun h_34 => ?_) (fun h_34 => ?_)
          · skip
            refine z_iinc (v := nI (i + 1)) (ls' := [some (.ref (n0 + 113)), some (.int (nI s)), some (.int e), some (.int (nI (sumTo (mF μ s e) i))), some (.int (nI (i + 1))), some (.int 0)]) C rfl (cv_inc i 1) (by decide) rfl dX5_usersOf_68 ?_
            refine z_goto (tgt := 5) C dX5_usersOf_71 (by decide) ?_
            exact z_cast (σ1 := (κ, μ, o)) (ls' := [some (.ref (n0 + 113)), some (.int (nI s)), some (.int e), some (.int (nI (sumTo (mF μ s e) (i + 1)))), some (.int (nI (i + 1))), none]) (st' := []) (ih_5) rfl ⟨rfl, rfl, rfl, (so_int (by simp [sumTo, mF, hth, Nat.add_assoc])), rfl, trivial⟩ rfl
          · exact absurd hth h_34
      · skip
        refine z_iconst (v := 0) C (by decide +kernel) dX5_usersOf_12 ?_
        refine z_istore (ls' := [some (.ref (n0 + 113)), some (.int (nI s)), some (.int e), some (.int (nI (sumTo (mF μ s e) i))), some (.int (nI i)), some (.int 0)]) C (by decide) rfl dX5_usersOf_13 ?_
        refine z_cast (σ1 := (κ, μ, o)) (ls' := [some (.ref (n0 + 113)), some (.int (nI s)), some (.int e), some (.int (nI (sumTo (mF μ s e) i + sumTo (mG μ s i e) 0))), some (.int (nI i)), some (.int (nI 0))]) (st' := []) (z_for (P := fun j => ZZ pp l ee (rmk 1 22) ss mm aa bb me cd D n0 127 6 0 0 Q (κ, μ, o) 15 [some (.ref (n0 + 113)), some (.int (nI s)), some (.int e), some (.int (nI (sumTo (mF μ s e) i + sumTo (mG μ s i e) j))), some (.int (nI i)), some (.int (nI j))] []) (40) ?_ ?_ 0 (Nat.zero_le _)) rfl ⟨rfl, rfl, rfl, (so_int (by simp [sumTo])), rfl, rfl, trivial⟩ rfl
        · skip
          refine z_iload C rfl dX5_usersOf_15 ?_
          refine z_bipush (v := 40) C (by decide +kernel) dX5_usersOf_17 ?_
          refine z_icmp_ge (tgt := 68) C dX5_usersOf_19 (by decide) (fun h_19 => ?_) (fun h_19 => ?_)
          · have g_19 := cv_le (a := 40) (b := 40) (by omega) (by omega) h_19
            refine z_iinc (v := nI (i + 1)) (ls' := [some (.ref (n0 + 113)), some (.int (nI s)), some (.int e), some (.int (nI (sumTo (mF μ s e) i + sumTo (mG μ s i e) 40))), some (.int (nI (i + 1))), some (.int (nI 40))]) C rfl (cv_inc i 1) (by decide) rfl dX5_usersOf_68 ?_
            refine z_goto (tgt := 5) C dX5_usersOf_71 (by decide) ?_
            exact z_cast (σ1 := (κ, μ, o)) (ls' := [some (.ref (n0 + 113)), some (.int (nI s)), some (.int e), some (.int (nI (sumTo (mF μ s e) (i + 1)))), some (.int (nI (i + 1))), none]) (st' := []) (ih_5) rfl ⟨rfl, rfl, rfl, (so_int (by simp [sumTo, mF, hth])), rfl, trivial⟩ rfl
          · have g_19 := cv_nle (a := 40) (b := 40) (by omega) (by omega) h_19
            exact absurd g_19 (by omega)
        · intro j hi_15 ih_15
          refine z_iload C rfl dX5_usersOf_15 ?_
          refine z_bipush (v := 40) C (by decide +kernel) dX5_usersOf_17 ?_
          refine z_icmp_ge (tgt := 68) C dX5_usersOf_19 (by decide) (fun h_19 => ?_) (fun h_19 => ?_)
          · have g_19 := cv_le (a := 40) (b := j) (by omega) (by omega) h_19
            exact absurd hi_15 (by omega)
          · have g_19 := cv_nle (a := 40) (b := j) (by omega) (by omega) h_19
            refine z_aload_n C rfl dX5_usersOf_22 ?_
            refine gf_X5_7 C dX5_usersOf_23 ?_
            refine z_bipush (v := 16) C (by decide +kernel) dX5_usersOf_26 ?_
            refine z_iload_n C rfl dX5_usersOf_28 ?_
            refine z_imul (v := nI (16 * s)) C (cv_mul 16 s) dX5_usersOf_29 ?_
            refine z_iload C rfl dX5_usersOf_30 ?_
            refine z_iadd (v := nI (16 * s + i)) C (cv_add (16 * s) i) dX5_usersOf_32 ?_
            refine al_114 (v := μ 1 (16 * s + i)) C (16 * s + i) rfl (by omega) rfl dX5_usersOf_33 ?_
            refine z_if_eq (tgt := 68) C dX5_usersOf_34 (by decide) (fun h_34 => ?_) (fun h_34 => ?_)
            · exact absurd h_34 hth
            · skip
              refine z_iload_n C rfl dX5_usersOf_37 ?_
              refine z_aload_n C rfl dX5_usersOf_38 ?_
              refine gf_X5_26 C dX5_usersOf_39 ?_
              refine z_iload_n C rfl dX5_usersOf_42 ?_
              refine z_iload C rfl dX5_usersOf_43 ?_
              refine z_iload C rfl dX5_usersOf_45 ?_
              refine z_callS (As := [.int (nI s), .int (nI i), .int (nI j)]) (r := (some (.int (nI (40 * (16 * s + i) + j))))) (σ1 := (κ, μ, o)) (st := [.ref (n0 + 119), .int (nI (sumTo (mF μ s e) i + sumTo (mG μ s i e) j))]) (st1 := [.int (nI (40 * (16 * s + i) + j)), .ref (n0 + 119), .int (nI (sumTo (mF μ s e) i + sumTo (mG μ s i e) j))]) C K ok_X5_58 (c_X5_at l D n0 κ μ o s i j) rfl ⟨by decide, by decide⟩ ⟨Nat.zero_le _, Nat.zero_le _⟩ (by simp [Value.category]) dX5_usersOf_47 rfl rfl ?_
              refine al_119 (v := μ 6 (40 * (16 * s + i) + j)) C (40 * (16 * s + i) + j) rfl (by omega) rfl dX5_usersOf_50 ?_
              refine z_iload_n C rfl dX5_usersOf_51 ?_
              refine z_icmp_ne (tgt := 59) C dX5_usersOf_52 (by decide) (fun h_52 => ?_) (fun h_52 => ?_)
              · skip
                refine z_iconst (v := 0) C (by decide +kernel) dX5_usersOf_59 ?_
                refine z_iadd (v := nI (sumTo (mF μ s e) i + sumTo (mG μ s i e) j + 0)) C (cv_add (sumTo (mF μ s e) i + sumTo (mG μ s i e) j) 0) dX5_usersOf_60 ?_
                refine z_istore_n (ls' := [some (.ref (n0 + 113)), some (.int (nI s)), some (.int e), some (.int (nI (sumTo (mF μ s e) i + sumTo (mG μ s i e) j + 0))), some (.int (nI i)), some (.int (nI j))]) C (by decide) rfl dX5_usersOf_61 ?_
                refine z_iinc (v := nI (j + 1)) (ls' := [some (.ref (n0 + 113)), some (.int (nI s)), some (.int e), some (.int (nI (sumTo (mF μ s e) i + sumTo (mG μ s i e) j + 0))), some (.int (nI i)), some (.int (nI (j + 1)))]) C rfl (cv_inc j 1) (by decide) rfl dX5_usersOf_62 ?_
                refine z_goto (tgt := 15) C dX5_usersOf_65 (by decide) ?_
                exact z_cast (σ1 := (κ, μ, o)) (ls' := [some (.ref (n0 + 113)), some (.int (nI s)), some (.int e), some (.int (nI (sumTo (mF μ s e) i + sumTo (mG μ s i e) (j + 1)))), some (.int (nI i)), some (.int (nI (j + 1)))]) (st' := []) (ih_15) rfl ⟨rfl, rfl, rfl, (so_int (by simp [sumTo, mG, h_52, Nat.add_assoc])), rfl, rfl, trivial⟩ rfl
              · skip
                refine z_iconst (v := 1) C (by decide +kernel) dX5_usersOf_55 ?_
                refine z_goto (tgt := 60) C dX5_usersOf_56 (by decide) ?_
                refine z_iadd (v := nI (sumTo (mF μ s e) i + sumTo (mG μ s i e) j + 1)) C (cv_add (sumTo (mF μ s e) i + sumTo (mG μ s i e) j) 1) dX5_usersOf_60 ?_
                refine z_istore_n (ls' := [some (.ref (n0 + 113)), some (.int (nI s)), some (.int e), some (.int (nI (sumTo (mF μ s e) i + sumTo (mG μ s i e) j + 1))), some (.int (nI i)), some (.int (nI j))]) C (by decide) rfl dX5_usersOf_61 ?_
                refine z_iinc (v := nI (j + 1)) (ls' := [some (.ref (n0 + 113)), some (.int (nI s)), some (.int e), some (.int (nI (sumTo (mF μ s e) i + sumTo (mG μ s i e) j + 1))), some (.int (nI i)), some (.int (nI (j + 1)))]) C rfl (cv_inc j 1) (by decide) rfl dX5_usersOf_62 ?_
                refine z_goto (tgt := 15) C dX5_usersOf_65 (by decide) ?_
                exact z_cast (σ1 := (κ, μ, o)) (ls' := [some (.ref (n0 + 113)), some (.int (nI s)), some (.int e), some (.int (nI (sumTo (mF μ s e) i + sumTo (mG μ s i e) (j + 1)))), some (.int (nI i)), some (.int (nI (j + 1)))]) (st' := []) (ih_15) rfl ⟨rfl, rfl, rfl, (so_int (by simp [sumTo, mG, h_52, Nat.add_assoc])), rfl, rfl, trivial⟩ rfl
set_option maxHeartbeats 4000000 in
set_option maxRecDepth 100000 in
theorem c_X5_isFree (l : Launch) (D : DD) (n0 : Nat) (κ μ : KH) (o : Int64) (e : Int32) : HM l D n0 yX5_isFree cX5_isFree 2 (some .boolean) 2 47 [.ref (n0 + 113), .int e] (κ, μ, o) (some (.int (b2i (mFree μ e)))) (κ, μ, o) := by
  refine HM.of (by decide) (by simp [Value.category]) (by simp) (Or.inr (Or.inl ⟨_, .boolean, rfl, rfl, (b2i_nar _)⟩)) ?_
  intro pp ee ss mm aa bb me cd Q C K hret
  show ZZ pp l ee (rmk 2 47) ss mm aa bb me cd D n0 127 2 0 0 Q _ 0 [some (.ref (n0 + 113)), some (.int e)] []
  have hu0 := mUse_le μ 0 e
  have hu1 := mUse_le μ 1 e
  have hu2 := mUse_le μ 2 e
  refine z_aload_n C rfl dX5_isFree_0 ?_
  refine z_iconst (v := 0) C (by decide +kernel) dX5_isFree_1 ?_
  refine z_iload_n C rfl dX5_isFree_2 ?_
  refine z_callV (As := [.int 0, .int e]) (r := (some (.int (nI (mUse μ 0 e))))) (σ1 := (κ, μ, o)) (st := []) (st1 := [.int (nI (mUse μ 0 e))]) C K ok_X5_62 (c_X5_usersOf l D n0 κ μ o 0 e (by omega)) enc_M (by decide) rfl rfl ⟨by decide, by decide⟩ ⟨Nat.zero_le _, Nat.zero_le _⟩ (by simp [Value.category]) dX5_isFree_3 rfl rfl ?_
  refine z_aload_n C rfl dX5_isFree_6 ?_
  refine z_iconst (v := 1) C (by decide +kernel) dX5_isFree_7 ?_
  refine z_iload_n C rfl dX5_isFree_8 ?_
  refine z_callV (As := [.int 1, .int e]) (r := (some (.int (nI (mUse μ 1 e))))) (σ1 := (κ, μ, o)) (st := [.int (nI (mUse μ 0 e))]) (st1 := [.int (nI (mUse μ 1 e)), .int (nI (mUse μ 0 e))]) C K ok_X5_62 (c_X5_usersOf l D n0 κ μ o 1 e (by omega)) enc_M (by decide) rfl rfl ⟨by decide, by decide⟩ ⟨Nat.zero_le _, Nat.zero_le _⟩ (by simp [Value.category]) dX5_isFree_9 rfl rfl ?_
  refine z_iadd (v := nI (mUse μ 0 e + (mUse μ 1 e))) C (cv_add (mUse μ 0 e) (mUse μ 1 e)) dX5_isFree_12 ?_
  refine z_aload_n C rfl dX5_isFree_13 ?_
  refine z_iconst (v := 2) C (by decide +kernel) dX5_isFree_14 ?_
  refine z_iload_n C rfl dX5_isFree_15 ?_
  refine z_callV (As := [.int 2, .int e]) (r := (some (.int (nI (mUse μ 2 e))))) (σ1 := (κ, μ, o)) (st := [.int (nI (mUse μ 0 e + (mUse μ 1 e)))]) (st1 := [.int (nI (mUse μ 2 e)), .int (nI (mUse μ 0 e + (mUse μ 1 e)))]) C K ok_X5_62 (c_X5_usersOf l D n0 κ μ o 2 e (by omega)) enc_M (by decide) rfl rfl ⟨by decide, by decide⟩ ⟨Nat.zero_le _, Nat.zero_le _⟩ (by simp [Value.category]) dX5_isFree_16 rfl rfl ?_
  refine z_iadd (v := nI (mUse μ 0 e + (mUse μ 1 e) + (mUse μ 2 e))) C (cv_add (mUse μ 0 e + (mUse μ 1 e)) (mUse μ 2 e)) dX5_isFree_19 ?_
  refine z_if_ne (tgt := 27) C dX5_isFree_20 (by decide) (fun h_20 => ?_) (fun h_20 => ?_)
  · have g_20 := cv_ne (a := mUse μ 0 e + (mUse μ 1 e) + (mUse μ 2 e)) (b := 0) h_20
    refine z_iconst (v := 0) C (by decide +kernel) dX5_isFree_27 ?_
    exact z_endI (hret _ _ dX5_isFree_28) (b2i_0 (decide_eq_false (by omega))) rfl
  · have g_20 := cv_eq (a := mUse μ 0 e + (mUse μ 1 e) + (mUse μ 2 e)) (b := 0) (by omega) (by omega) h_20
    refine z_iconst (v := 1) C (by decide +kernel) dX5_isFree_23 ?_
    refine z_goto (tgt := 28) C dX5_isFree_24 (by decide) ?_
    exact z_endI (hret _ _ dX5_isFree_28) (b2i_1 (decide_eq_true (by omega))) rfl
set_option maxHeartbeats 4000000 in
set_option maxRecDepth 100000 in
theorem c_X5_isSole (l : Launch) (D : DD) (n0 : Nat) (κ μ : KH) (o : Int64) (e : Int32) : HM l D n0 yX5_isSole cX5_isSole 2 (some .boolean) 2 47 [.ref (n0 + 113), .int e] (κ, μ, o) (some (.int (b2i (mSole μ e)))) (κ, μ, o) := by
  refine HM.of (by decide) (by simp [Value.category]) (by simp) (Or.inr (Or.inl ⟨_, .boolean, rfl, rfl, (b2i_nar _)⟩)) ?_
  intro pp ee ss mm aa bb me cd Q C K hret
  show ZZ pp l ee (rmk 2 47) ss mm aa bb me cd D n0 127 2 0 0 Q _ 0 [some (.ref (n0 + 113)), some (.int e)] []
  have hu0 := mUse_le μ 0 e
  have hu1 := mUse_le μ 1 e
  have hu2 := mUse_le μ 2 e
  refine z_aload_n C rfl dX5_isSole_0 ?_
  refine z_iconst (v := 0) C (by decide +kernel) dX5_isSole_1 ?_
  refine z_iload_n C rfl dX5_isSole_2 ?_
  refine z_callV (As := [.int 0, .int e]) (r := (some (.int (nI (mUse μ 0 e))))) (σ1 := (κ, μ, o)) (st := []) (st1 := [.int (nI (mUse μ 0 e))]) C K ok_X5_62 (c_X5_usersOf l D n0 κ μ o 0 e (by omega)) enc_M (by decide) rfl rfl ⟨by decide, by decide⟩ ⟨Nat.zero_le _, Nat.zero_le _⟩ (by simp [Value.category]) dX5_isSole_3 rfl rfl ?_
  refine z_iconst (v := 1) C (by decide +kernel) dX5_isSole_6 ?_
  refine z_icmp_ne (tgt := 30) C dX5_isSole_7 (by decide) (fun h_7 => ?_) (fun h_7 => ?_)
  · have g_7 := cv_ne (a := mUse μ 0 e) (b := 1) h_7
    refine z_iconst (v := 0) C (by decide +kernel) dX5_isSole_30 ?_
    exact z_endI (hret _ _ dX5_isSole_31) (b2i_0 (by simp only [mSole, Bool.and_eq_false_iff, decide_eq_false_iff_not]; omega)) rfl
  · have g_7 := cv_eq (a := mUse μ 0 e) (b := 1) (by omega) (by omega) h_7
    refine z_aload_n C rfl dX5_isSole_10 ?_
    refine z_iconst (v := 1) C (by decide +kernel) dX5_isSole_11 ?_
    refine z_iload_n C rfl dX5_isSole_12 ?_
    refine z_callV (As := [.int 1, .int e]) (r := (some (.int (nI (mUse μ 1 e))))) (σ1 := (κ, μ, o)) (st := []) (st1 := [.int (nI (mUse μ 1 e))]) C K ok_X5_62 (c_X5_usersOf l D n0 κ μ o 1 e (by omega)) enc_M (by decide) rfl rfl ⟨by decide, by decide⟩ ⟨Nat.zero_le _, Nat.zero_le _⟩ (by simp [Value.category]) dX5_isSole_13 rfl rfl ?_
    refine z_aload_n C rfl dX5_isSole_16 ?_
    refine z_iconst (v := 2) C (by decide +kernel) dX5_isSole_17 ?_
    refine z_iload_n C rfl dX5_isSole_18 ?_
    refine z_callV (As := [.int 2, .int e]) (r := (some (.int (nI (mUse μ 2 e))))) (σ1 := (κ, μ, o)) (st := [.int (nI (mUse μ 1 e))]) (st1 := [.int (nI (mUse μ 2 e)), .int (nI (mUse μ 1 e))]) C K ok_X5_62 (c_X5_usersOf l D n0 κ μ o 2 e (by omega)) enc_M (by decide) rfl rfl ⟨by decide, by decide⟩ ⟨Nat.zero_le _, Nat.zero_le _⟩ (by simp [Value.category]) dX5_isSole_19 rfl rfl ?_
    refine z_iadd (v := nI (mUse μ 1 e + (mUse μ 2 e))) C (cv_add (mUse μ 1 e) (mUse μ 2 e)) dX5_isSole_22 ?_
    refine z_if_ne (tgt := 30) C dX5_isSole_23 (by decide) (fun h_23 => ?_) (fun h_23 => ?_)
    · have g_23 := cv_ne (a := mUse μ 1 e + (mUse μ 2 e)) (b := 0) h_23
      refine z_iconst (v := 0) C (by decide +kernel) dX5_isSole_30 ?_
      exact z_endI (hret _ _ dX5_isSole_31) (b2i_0 (by simp only [mSole, Bool.and_eq_false_iff, decide_eq_false_iff_not]; omega)) rfl
    · have g_23 := cv_eq (a := mUse μ 1 e + (mUse μ 2 e)) (b := 0) (by omega) (by omega) h_23
      refine z_iconst (v := 1) C (by decide +kernel) dX5_isSole_26 ?_
      refine z_goto (tgt := 31) C dX5_isSole_27 (by decide) ?_
      exact z_endI (hret _ _ dX5_isSole_31) (b2i_1 (by simp only [mSole, Bool.and_eq_true, decide_eq_true_eq]; omega)) rfl
set_option maxHeartbeats 4000000 in
set_option maxRecDepth 100000 in
theorem c_X5_freeMany (l : Launch) (D : DD) (n0 : Nat) (κ μ : KH) (o : Int64) (n : Nat) (hE : μ 0 9 = nI n) (hn : n ≤ 96) : HM l D n0 yX5_freeMany cX5_freeMany 3 (some .int) 3 68 [.ref (n0 + 113)] (κ, μ, o) (some (.int (nI (mFM μ n)))) (κ, μ, o) := by
  refine HM.of (by decide) (by simp [Value.category]) (by simp) (Or.inr (Or.inl ⟨_, .int, rfl, rfl, rfl⟩)) ?_
  intro pp ee ss mm aa bb me cd Q C K hret
  show ZZ pp l ee (rmk 3 68) ss mm aa bb me cd D n0 127 3 0 0 Q _ 0 [some (.ref (n0 + 113)), none, none] []
  refine z_iconst (v := 0) C (by decide +kernel) dX5_freeMany_0 ?_
  refine z_istore_n (ls' := [some (.ref (n0 + 113)), some (.int 0), none]) C (by decide) rfl dX5_freeMany_1 ?_
  refine z_iconst (v := 0) C (by decide +kernel) dX5_freeMany_2 ?_
  refine z_istore_n (ls' := [some (.ref (n0 + 113)), some (.int 0), some (.int 0)]) C (by decide) rfl dX5_freeMany_3 ?_
  refine z_cast (σ1 := (κ, μ, o)) (ls' := [some (.ref (n0 + 113)), some (.int (nI (sumTo (mFr1 μ) 0))), some (.int (nI 0))]) (st' := []) (z_for (P := fun i => ZZ pp l ee (rmk 3 68) ss mm aa bb me cd D n0 127 3 0 0 Q (κ, μ, o) 4 [some (.ref (n0 + 113)), some (.int (nI (sumTo (mFr1 μ) i))), some (.int (nI i))] []) (n) ?_ ?_ 0 (Nat.zero_le _)) rfl ⟨rfl, rfl, rfl, trivial⟩ rfl
  · skip
    refine z_iload_n C rfl dX5_freeMany_4 ?_
    refine z_aload_n C rfl dX5_freeMany_5 ?_
    refine gf_X5_32 (v := nI n) C hE dX5_freeMany_6 ?_
    refine z_icmp_ge (tgt := 34) C dX5_freeMany_9 (by decide) (fun h_9 => ?_) (fun h_9 => ?_)
    · have g_9 := cv_le (a := n) (b := n) (by omega) (by omega) h_9
      refine z_iload_n C rfl dX5_freeMany_34 ?_
      exact z_endI (hret _ _ dX5_freeMany_35) rfl rfl
    · have g_9 := cv_nle (a := n) (b := n) (by omega) (by omega) h_9
      exact absurd g_9 (by omega)
  · intro i hi_4 ih_4
    refine z_iload_n C rfl dX5_freeMany_4 ?_
    refine z_aload_n C rfl dX5_freeMany_5 ?_
    refine gf_X5_32 (v := nI n) C hE dX5_freeMany_6 ?_
    refine z_icmp_ge (tgt := 34) C dX5_freeMany_9 (by decide) (fun h_9 => ?_) (fun h_9 => ?_)
    · have g_9 := cv_le (a := n) (b := i) (by omega) (by omega) h_9
      exact absurd hi_4 (by omega)
    · have g_9 := cv_nle (a := n) (b := i) (by omega) (by omega) h_9
      refine z_iload_n C rfl dX5_freeMany_12 ?_
      refine z_aload_n C rfl dX5_freeMany_13 ?_
      refine z_iload_n C rfl dX5_freeMany_14 ?_
      refine z_callV (As := [.int (nI i)]) (r := (some (.int (b2i (mFree μ (nI i)))))) (σ1 := (κ, μ, o)) (st := [.int (nI (sumTo (mFr1 μ) i))]) (st1 := [.int (b2i (mFree μ (nI i))), .int (nI (sumTo (mFr1 μ) i))]) C K ok_X5_66 (c_X5_isFree l D n0 κ μ o (nI i)) enc_M (by decide) rfl rfl ⟨by decide, by decide⟩ ⟨Nat.zero_le _, Nat.zero_le _⟩ (by simp [Value.category]) dX5_freeMany_15 rfl rfl ?_
      refine z_if_eq (tgt := 25) C dX5_freeMany_18 (by decide) (fun h_18 => ?_) (fun h_18 => ?_)
      · have g_18 := cv_b0 h_18
        refine z_iconst (v := 0) C (by decide +kernel) dX5_freeMany_25 ?_
        refine z_iadd (v := nI (sumTo (mFr1 μ) i + 0)) C (cv_add (sumTo (mFr1 μ) i) 0) dX5_freeMany_26 ?_
        refine z_istore_n (ls' := [some (.ref (n0 + 113)), some (.int (nI (sumTo (mFr1 μ) i + 0))), some (.int (nI i))]) C (by decide) rfl dX5_freeMany_27 ?_
        refine z_iinc (v := nI (i + 1)) (ls' := [some (.ref (n0 + 113)), some (.int (nI (sumTo (mFr1 μ) i + 0))), some (.int (nI (i + 1)))]) C rfl (cv_inc i 1) (by decide) rfl dX5_freeMany_28 ?_
        refine z_goto (tgt := 4) C dX5_freeMany_31 (by decide) ?_
        exact z_cast (σ1 := (κ, μ, o)) (ls' := [some (.ref (n0 + 113)), some (.int (nI (sumTo (mFr1 μ) (i + 1)))), some (.int (nI (i + 1)))]) (st' := []) (ih_4) rfl ⟨rfl, (so_int (by simp [sumTo, mFr1, g_18])), rfl, trivial⟩ rfl
      · have g_18 := cv_b1 h_18
        refine z_iconst (v := 1) C (by decide +kernel) dX5_freeMany_21 ?_
        refine z_goto (tgt := 26) C dX5_freeMany_22 (by decide) ?_
        refine z_iadd (v := nI (sumTo (mFr1 μ) i + 1)) C (cv_add (sumTo (mFr1 μ) i) 1) dX5_freeMany_26 ?_
        refine z_istore_n (ls' := [some (.ref (n0 + 113)), some (.int (nI (sumTo (mFr1 μ) i + 1))), some (.int (nI i))]) C (by decide) rfl dX5_freeMany_27 ?_
        refine z_iinc (v := nI (i + 1)) (ls' := [some (.ref (n0 + 113)), some (.int (nI (sumTo (mFr1 μ) i + 1))), some (.int (nI (i + 1)))]) C rfl (cv_inc i 1) (by decide) rfl dX5_freeMany_28 ?_
        refine z_goto (tgt := 4) C dX5_freeMany_31 (by decide) ?_
        exact z_cast (σ1 := (κ, μ, o)) (ls' := [some (.ref (n0 + 113)), some (.int (nI (sumTo (mFr1 μ) (i + 1)))), some (.int (nI (i + 1)))]) (st' := []) (ih_4) rfl ⟨rfl, (so_int (by simp [sumTo, mFr1, g_18])), rfl, trivial⟩ rfl
set_option maxHeartbeats 4000000 in
set_option maxRecDepth 100000 in
theorem c_X5_mapped (l : Launch) (D : DD) (n0 : Nat) (κ μ : KH) (o : Int64) (v : Nat) (hv : v < 16) : HM l D n0 yX5_mapped cX5_mapped 4 (some .int) 1 22 [.ref (n0 + 113), .int (nI v)] (κ, μ, o) (some (.int (nI (mMap μ v)))) (κ, μ, o) := by
  refine HM.of (by decide) (by simp [Value.category]) (by simp) (Or.inr (Or.inl ⟨_, .int, rfl, rfl, rfl⟩)) ?_
  intro pp ee ss mm aa bb me cd Q C K hret
  show ZZ pp l ee (rmk 1 22) ss mm aa bb me cd D n0 127 4 0 0 Q _ 0 [some (.ref (n0 + 113)), some (.int (nI v)), none, none] []
  refine z_iconst (v := 0) C (by decide +kernel) dX5_mapped_0 ?_
  refine z_istore_n (ls' := [some (.ref (n0 + 113)), some (.int (nI v)), some (.int 0), none]) C (by decide) rfl dX5_mapped_1 ?_
  refine z_iconst (v := 0) C (by decide +kernel) dX5_mapped_2 ?_
  refine z_istore_n (ls' := [some (.ref (n0 + 113)), some (.int (nI v)), some (.int 0), some (.int 0)]) C (by decide) rfl dX5_mapped_3 ?_
  refine z_cast (σ1 := (κ, μ, o)) (ls' := [some (.ref (n0 + 113)), some (.int (nI v)), some (.int (nI (sumTo (mMp1 μ v) 0))), some (.int (nI 0))]) (st' := []) (z_for (P := fun i => ZZ pp l ee (rmk 1 22) ss mm aa bb me cd D n0 127 4 0 0 Q (κ, μ, o) 4 [some (.ref (n0 + 113)), some (.int (nI v)), some (.int (nI (sumTo (mMp1 μ v) i))), some (.int (nI i))] []) (40) ?_ ?_ 0 (Nat.zero_le _)) rfl ⟨rfl, rfl, rfl, rfl, trivial⟩ rfl
  · skip
    refine z_iload_n C rfl dX5_mapped_4 ?_
    refine z_bipush (v := 40) C (by decide +kernel) dX5_mapped_5 ?_
    refine z_icmp_ge (tgt := 39) C dX5_mapped_7 (by decide) (fun h_7 => ?_) (fun h_7 => ?_)
    · have g_7 := cv_le (a := 40) (b := 40) (by omega) (by omega) h_7
      refine z_iload_n C rfl dX5_mapped_39 ?_
      exact z_endI (hret _ _ dX5_mapped_40) rfl rfl
    · have g_7 := cv_nle (a := 40) (b := 40) (by omega) (by omega) h_7
      exact absurd g_7 (by omega)
  · intro i hi_4 ih_4
    refine z_iload_n C rfl dX5_mapped_4 ?_
    refine z_bipush (v := 40) C (by decide +kernel) dX5_mapped_5 ?_
    refine z_icmp_ge (tgt := 39) C dX5_mapped_7 (by decide) (fun h_7 => ?_) (fun h_7 => ?_)
    · have g_7 := cv_le (a := 40) (b := i) (by omega) (by omega) h_7
      exact absurd hi_4 (by omega)
    · have g_7 := cv_nle (a := 40) (b := i) (by omega) (by omega) h_7
      refine z_iload_n C rfl dX5_mapped_10 ?_
      refine z_aload_n C rfl dX5_mapped_11 ?_
      refine gf_X5_26 C dX5_mapped_12 ?_
      refine z_iconst (v := 0) C (by decide +kernel) dX5_mapped_15 ?_
      refine z_iload_n C rfl dX5_mapped_16 ?_
      refine z_iload_n C rfl dX5_mapped_17 ?_
      refine z_callS (As := [.int 0, .int (nI v), .int (nI i)]) (r := (some (.int (nI (40 * v + i))))) (σ1 := (κ, μ, o)) (st := [.ref (n0 + 119), .int (nI (sumTo (mMp1 μ v) i))]) (st1 := [.int (nI (40 * v + i)), .ref (n0 + 119), .int (nI (sumTo (mMp1 μ v) i))]) C K ok_X5_58 (c_X5_at0 l D n0 κ μ o v i) rfl ⟨by decide, by decide⟩ ⟨Nat.zero_le _, Nat.zero_le _⟩ (by simp [Value.category]) dX5_mapped_18 rfl rfl ?_
      refine al_119 (v := μ 6 (40 * v + i)) C (40 * v + i) rfl (by omega) rfl dX5_mapped_21 ?_
      refine z_iconst (v := (-1)) C (by decide +kernel) dX5_mapped_22 ?_
      refine z_icmp_eq (tgt := 30) C dX5_mapped_23 (by decide) (fun h_23 => ?_) (fun h_23 => ?_)
      · skip
        refine z_iconst (v := 0) C (by decide +kernel) dX5_mapped_30 ?_
        refine z_iadd (v := nI (sumTo (mMp1 μ v) i + 0)) C (cv_add (sumTo (mMp1 μ v) i) 0) dX5_mapped_31 ?_
        refine z_istore_n (ls' := [some (.ref (n0 + 113)), some (.int (nI v)), some (.int (nI (sumTo (mMp1 μ v) i + 0))), some (.int (nI i))]) C (by decide) rfl dX5_mapped_32 ?_
        refine z_iinc (v := nI (i + 1)) (ls' := [some (.ref (n0 + 113)), some (.int (nI v)), some (.int (nI (sumTo (mMp1 μ v) i + 0))), some (.int (nI (i + 1)))]) C rfl (cv_inc i 1) (by decide) rfl dX5_mapped_33 ?_
        refine z_goto (tgt := 4) C dX5_mapped_36 (by decide) ?_
        exact z_cast (σ1 := (κ, μ, o)) (ls' := [some (.ref (n0 + 113)), some (.int (nI v)), some (.int (nI (sumTo (mMp1 μ v) (i + 1)))), some (.int (nI (i + 1)))]) (st' := []) (ih_4) rfl ⟨rfl, rfl, (so_int (by simp [sumTo, mMp1, h_23])), rfl, trivial⟩ rfl
      · skip
        refine z_iconst (v := 1) C (by decide +kernel) dX5_mapped_26 ?_
        refine z_goto (tgt := 31) C dX5_mapped_27 (by decide) ?_
        refine z_iadd (v := nI (sumTo (mMp1 μ v) i + 1)) C (cv_add (sumTo (mMp1 μ v) i) 1) dX5_mapped_31 ?_
        refine z_istore_n (ls' := [some (.ref (n0 + 113)), some (.int (nI v)), some (.int (nI (sumTo (mMp1 μ v) i + 1))), some (.int (nI i))]) C (by decide) rfl dX5_mapped_32 ?_
        refine z_iinc (v := nI (i + 1)) (ls' := [some (.ref (n0 + 113)), some (.int (nI v)), some (.int (nI (sumTo (mMp1 μ v) i + 1))), some (.int (nI (i + 1)))]) C rfl (cv_inc i 1) (by decide) rfl dX5_mapped_33 ?_
        refine z_goto (tgt := 4) C dX5_mapped_36 (by decide) ?_
        exact z_cast (σ1 := (κ, μ, o)) (ls' := [some (.ref (n0 + 113)), some (.int (nI v)), some (.int (nI (sumTo (mMp1 μ v) (i + 1)))), some (.int (nI (i + 1)))]) (st' := []) (ih_4) rfl ⟨rfl, rfl, (so_int (by simp [sumTo, mMp1, h_23])), rfl, trivial⟩ rfl
set_option maxHeartbeats 4000000 in
set_option maxRecDepth 100000 in
theorem c_X5_volumes (l : Launch) (D : DD) (n0 : Nat) (κ μ : KH) (o : Int64) (s : Nat) (hs : s < 3) : HM l D n0 yX5_volumes cX5_volumes 4 (some .int) 0 0 [.ref (n0 + 113), .int (nI s)] (κ, μ, o) (some (.int (nI (mVol μ s)))) (κ, μ, o) := by
  refine HM.of (by decide) (by simp [Value.category]) (by simp) (Or.inr (Or.inl ⟨_, .int, rfl, rfl, rfl⟩)) ?_
  intro pp ee ss mm aa bb me cd Q C K hret
  show ZZ pp l ee (rmk 0 0) ss mm aa bb me cd D n0 127 4 0 0 Q _ 0 [some (.ref (n0 + 113)), some (.int (nI s)), none, none] []
  refine z_iconst (v := 0) C (by decide +kernel) dX5_volumes_0 ?_
  refine z_istore_n (ls' := [some (.ref (n0 + 113)), some (.int (nI s)), some (.int 0), none]) C (by decide) rfl dX5_volumes_1 ?_
  refine z_iconst (v := 0) C (by decide +kernel) dX5_volumes_2 ?_
  refine z_istore_n (ls' := [some (.ref (n0 + 113)), some (.int (nI s)), some (.int 0), some (.int 0)]) C (by decide) rfl dX5_volumes_3 ?_
  refine z_cast (σ1 := (κ, μ, o)) (ls' := [some (.ref (n0 + 113)), some (.int (nI s)), some (.int (nI (sumTo (mTh1 μ s) 0))), some (.int (nI 0))]) (st' := []) (z_for (P := fun i => ZZ pp l ee (rmk 0 0) ss mm aa bb me cd D n0 127 4 0 0 Q (κ, μ, o) 4 [some (.ref (n0 + 113)), some (.int (nI s)), some (.int (nI (sumTo (mTh1 μ s) i))), some (.int (nI i))] []) (16) ?_ ?_ 0 (Nat.zero_le _)) rfl ⟨rfl, rfl, rfl, rfl, trivial⟩ rfl
  · skip
    refine z_iload_n C rfl dX5_volumes_4 ?_
    refine z_bipush (v := 16) C (by decide +kernel) dX5_volumes_5 ?_
    refine z_icmp_ge (tgt := 38) C dX5_volumes_7 (by decide) (fun h_7 => ?_) (fun h_7 => ?_)
    · have g_7 := cv_le (a := 16) (b := 16) (by omega) (by omega) h_7
      refine z_iload_n C rfl dX5_volumes_38 ?_
      exact z_endI (hret _ _ dX5_volumes_39) rfl rfl
    · have g_7 := cv_nle (a := 16) (b := 16) (by omega) (by omega) h_7
      exact absurd g_7 (by omega)
  · intro i hi_4 ih_4
    refine z_iload_n C rfl dX5_volumes_4 ?_
    refine z_bipush (v := 16) C (by decide +kernel) dX5_volumes_5 ?_
    refine z_icmp_ge (tgt := 38) C dX5_volumes_7 (by decide) (fun h_7 => ?_) (fun h_7 => ?_)
    · have g_7 := cv_le (a := 16) (b := i) (by omega) (by omega) h_7
      exact absurd hi_4 (by omega)
    · have g_7 := cv_nle (a := 16) (b := i) (by omega) (by omega) h_7
      refine z_iload_n C rfl dX5_volumes_10 ?_
      refine z_aload_n C rfl dX5_volumes_11 ?_
      refine gf_X5_7 C dX5_volumes_12 ?_
      refine z_bipush (v := 16) C (by decide +kernel) dX5_volumes_15 ?_
      refine z_iload_n C rfl dX5_volumes_17 ?_
      refine z_imul (v := nI (16 * s)) C (cv_mul 16 s) dX5_volumes_18 ?_
      refine z_iload_n C rfl dX5_volumes_19 ?_
      refine z_iadd (v := nI (16 * s + i)) C (cv_add (16 * s) i) dX5_volumes_20 ?_
      refine al_114 (v := μ 1 (16 * s + i)) C (16 * s + i) rfl (by omega) rfl dX5_volumes_21 ?_
      refine z_if_eq (tgt := 29) C dX5_volumes_22 (by decide) (fun h_22 => ?_) (fun h_22 => ?_)
      · skip
        refine z_iconst (v := 0) C (by decide +kernel) dX5_volumes_29 ?_
        refine z_iadd (v := nI (sumTo (mTh1 μ s) i + 0)) C (cv_add (sumTo (mTh1 μ s) i) 0) dX5_volumes_30 ?_
        refine z_istore_n (ls' := [some (.ref (n0 + 113)), some (.int (nI s)), some (.int (nI (sumTo (mTh1 μ s) i + 0))), some (.int (nI i))]) C (by decide) rfl dX5_volumes_31 ?_
        refine z_iinc (v := nI (i + 1)) (ls' := [some (.ref (n0 + 113)), some (.int (nI s)), some (.int (nI (sumTo (mTh1 μ s) i + 0))), some (.int (nI (i + 1)))]) C rfl (cv_inc i 1) (by decide) rfl dX5_volumes_32 ?_
        refine z_goto (tgt := 4) C dX5_volumes_35 (by decide) ?_
        exact z_cast (σ1 := (κ, μ, o)) (ls' := [some (.ref (n0 + 113)), some (.int (nI s)), some (.int (nI (sumTo (mTh1 μ s) (i + 1)))), some (.int (nI (i + 1)))]) (st' := []) (ih_4) rfl ⟨rfl, rfl, (so_int (by simp [sumTo, mTh1, h_22])), rfl, trivial⟩ rfl
      · skip
        refine z_iconst (v := 1) C (by decide +kernel) dX5_volumes_25 ?_
        refine z_goto (tgt := 30) C dX5_volumes_26 (by decide) ?_
        refine z_iadd (v := nI (sumTo (mTh1 μ s) i + 1)) C (cv_add (sumTo (mTh1 μ s) i) 1) dX5_volumes_30 ?_
        refine z_istore_n (ls' := [some (.ref (n0 + 113)), some (.int (nI s)), some (.int (nI (sumTo (mTh1 μ s) i + 1))), some (.int (nI i))]) C (by decide) rfl dX5_volumes_31 ?_
        refine z_iinc (v := nI (i + 1)) (ls' := [some (.ref (n0 + 113)), some (.int (nI s)), some (.int (nI (sumTo (mTh1 μ s) i + 1))), some (.int (nI (i + 1)))]) C rfl (cv_inc i 1) (by decide) rfl dX5_volumes_32 ?_
        refine z_goto (tgt := 4) C dX5_volumes_35 (by decide) ?_
        exact z_cast (σ1 := (κ, μ, o)) (ls' := [some (.ref (n0 + 113)), some (.int (nI s)), some (.int (nI (sumTo (mTh1 μ s) (i + 1)))), some (.int (nI (i + 1)))]) (st' := []) (ih_4) rfl ⟨rfl, rfl, (so_int (by simp [sumTo, mTh1, h_22])), rfl, trivial⟩ rfl
set_option maxHeartbeats 4000000 in
set_option maxRecDepth 100000 in
theorem c_X5_clearState (l : Launch) (D : DD) (n0 : Nat) (κ μ : KH) (o : Int64) (s : Nat) (hs : s < 3) : HM l D n0 yX5_clearState cX5_clearState 3 none 0 0 [.ref (n0 + 113), .int (nI s)] (κ, μ, o) none (κ, up (iterK (mClr s) 16 μ) 7 s 0, o) := by
  refine HM.of (by decide) (by simp [Value.category]) (by simp) (Or.inl ⟨rfl, rfl⟩) ?_
  intro pp ee ss mm aa bb me cd Q C K hret
  show ZZ pp l ee (rmk 0 0) ss mm aa bb me cd D n0 127 3 0 0 Q _ 0 [some (.ref (n0 + 113)), some (.int (nI s)), none] []
  refine z_bipush (v := 16) C (by decide +kernel) dX5_clearState_0 ?_
  refine z_iload_n C rfl dX5_clearState_2 ?_
  refine z_imul (v := nI (16 * s)) C (cv_mul 16 s) dX5_clearState_3 ?_
  refine z_istore_n (ls' := [some (.ref (n0 + 113)), some (.int (nI s)), some (.int (nI (16 * s)))]) C (by decide) rfl dX5_clearState_4 ?_
  refine z_cast (σ1 := (κ, iterK (mClr s) 0 μ, o)) (ls' := [some (.ref (n0 + 113)), some (.int (nI s)), some (.int (nI (16 * s + 0)))]) (st' := []) (z_for (P := fun i => ZZ pp l ee (rmk 0 0) ss mm aa bb me cd D n0 127 3 0 0 Q (κ, iterK (mClr s) i μ, o) 5 [some (.ref (n0 + 113)), some (.int (nI s)), some (.int (nI (16 * s + i)))] []) (16) ?_ ?_ 0 (Nat.zero_le _)) rfl ⟨rfl, rfl, (so_int rfl), trivial⟩ rfl
  · skip
    refine z_iload_n C rfl dX5_clearState_5 ?_
    refine z_bipush (v := 16) C (by decide +kernel) dX5_clearState_6 ?_
    refine z_iload_n C rfl dX5_clearState_8 ?_
    refine z_imul (v := nI (16 * s)) C (cv_mul 16 s) dX5_clearState_9 ?_
    refine z_bipush (v := 16) C (by decide +kernel) dX5_clearState_10 ?_
    refine z_iadd (v := nI (16 * s + 16)) C (cv_add (16 * s) 16) dX5_clearState_12 ?_
    refine z_icmp_ge (tgt := 29) C dX5_clearState_13 (by decide) (fun h_13 => ?_) (fun h_13 => ?_)
    · have g_13 := cv_le (a := 16 * s + 16) (b := 16 * s + 16) (by omega) (by omega) h_13
      refine z_aload_n C rfl dX5_clearState_29 ?_
      refine gf_X5_29 C dX5_clearState_30 ?_
      refine z_iload_n C rfl dX5_clearState_33 ?_
      refine z_iconst (v := 0) C (by decide +kernel) dX5_clearState_34 ?_
      refine as_120 (x := 0) C (s) rfl (by omega) dX5_clearState_35 ?_
      exact z_endV (hret _ _ dX5_clearState_36) rfl
    · have g_13 := cv_nle (a := 16 * s + 16) (b := 16 * s + 16) (by omega) (by omega) h_13
      exact absurd g_13 (by omega)
  · intro i hi_5 ih_5
    refine z_iload_n C rfl dX5_clearState_5 ?_
    refine z_bipush (v := 16) C (by decide +kernel) dX5_clearState_6 ?_
    refine z_iload_n C rfl dX5_clearState_8 ?_
    refine z_imul (v := nI (16 * s)) C (cv_mul 16 s) dX5_clearState_9 ?_
    refine z_bipush (v := 16) C (by decide +kernel) dX5_clearState_10 ?_
    refine z_iadd (v := nI (16 * s + 16)) C (cv_add (16 * s) 16) dX5_clearState_12 ?_
    refine z_icmp_ge (tgt := 29) C dX5_clearState_13 (by decide) (fun h_13 => ?_) (fun h_13 => ?_)
    · have g_13 := cv_le (a := 16 * s + 16) (b := 16 * s + i) (by omega) (by omega) h_13
      exact absurd hi_5 (by omega)
    · have g_13 := cv_nle (a := 16 * s + 16) (b := 16 * s + i) (by omega) (by omega) h_13
      refine z_aload_n C rfl dX5_clearState_16 ?_
      refine gf_X5_7 C dX5_clearState_17 ?_
      refine z_iload_n C rfl dX5_clearState_20 ?_
      refine z_iconst (v := 0) C (by decide +kernel) dX5_clearState_21 ?_
      refine as_114 (x := 0) C (16 * s + i) (Or.inl rfl) rfl (by omega) dX5_clearState_22 ?_
      refine z_iinc (v := nI (16 * s + i + 1)) (ls' := [some (.ref (n0 + 113)), some (.int (nI s)), some (.int (nI (16 * s + i + 1)))]) C rfl (cv_inc (16 * s + i) 1) (by decide) rfl dX5_clearState_23 ?_
      refine z_goto (tgt := 5) C dX5_clearState_26 (by decide) ?_
      exact z_cast (σ1 := (κ, iterK (mClr s) (i + 1) μ, o)) (ls' := [some (.ref (n0 + 113)), some (.int (nI s)), some (.int (nI (16 * s + (i + 1))))]) (st' := []) (ih_5) rfl ⟨rfl, rfl, (so_int rfl), trivial⟩ rfl
set_option maxHeartbeats 4000000 in
set_option maxRecDepth 100000 in
theorem c_X5_copyVolume (l : Launch) (D : DD) (n0 : Nat) (κ μ : KH) (o : Int64) (s v t x : Nat) (hs : s < 3) (hv : v < 16) (ht : t < 3) (hx : x < 16) (h1 : is01 (μ 1 (16 * s + v))) (h3 : is01 (μ 3 (16 * s + v))) : HM l D n0 yX5_copyVolume cX5_copyVolume 8 none 0 0 [.ref (n0 + 113), .int (nI s), .int (nI v), .int (nI t), .int (nI x)] (κ, μ, o) none (κ, mCpV μ (16 * s + v) (16 * t + x), o) := by
  refine HM.of (by decide) (by simp [Value.category]) (by simp) (Or.inl ⟨rfl, rfl⟩) ?_
  intro pp ee ss mm aa bb me cd Q C K hret
  show ZZ pp l ee (rmk 0 0) ss mm aa bb me cd D n0 127 8 0 0 Q _ 0 [some (.ref (n0 + 113)), some (.int (nI s)), some (.int (nI v)), some (.int (nI t)), some (.int (nI x)), none, none, none] []
  refine z_bipush (v := 16) C (by decide +kernel) dX5_copyVolume_0 ?_
  refine z_iload_n C rfl dX5_copyVolume_2 ?_
  refine z_imul (v := nI (16 * s)) C (cv_mul 16 s) dX5_copyVolume_3 ?_
  refine z_iload_n C rfl dX5_copyVolume_4 ?_
  refine z_iadd (v := nI (16 * s + v)) C (cv_add (16 * s) v) dX5_copyVolume_5 ?_
  refine z_istore (ls' := [some (.ref (n0 + 113)), some (.int (nI s)), some (.int (nI v)), some (.int (nI t)), some (.int (nI x)), some (.int (nI (16 * s + v))), none, none]) C (by decide) rfl dX5_copyVolume_6 ?_
  refine z_bipush (v := 16) C (by decide +kernel) dX5_copyVolume_8 ?_
  refine z_iload_n C rfl dX5_copyVolume_10 ?_
  refine z_imul (v := nI (16 * t)) C (cv_mul 16 t) dX5_copyVolume_11 ?_
  refine z_iload C rfl dX5_copyVolume_12 ?_
  refine z_iadd (v := nI (16 * t + x)) C (cv_add (16 * t) x) dX5_copyVolume_14 ?_
  refine z_istore (ls' := [some (.ref (n0 + 113)), some (.int (nI s)), some (.int (nI v)), some (.int (nI t)), some (.int (nI x)), some (.int (nI (16 * s + v))), some (.int (nI (16 * t + x))), none]) C (by decide) rfl dX5_copyVolume_15 ?_
  refine z_aload_n C rfl dX5_copyVolume_17 ?_
  refine gf_X5_7 C dX5_copyVolume_18 ?_
  refine z_iload C rfl dX5_copyVolume_21 ?_
  refine z_aload_n C rfl dX5_copyVolume_23 ?_
  refine gf_X5_7 C dX5_copyVolume_24 ?_
  refine z_iload C rfl dX5_copyVolume_27 ?_
  refine al_114 (v := μ 1 (16 * s + v)) C (16 * s + v) rfl (by omega) rfl dX5_copyVolume_29 ?_
  refine as_114 (x := μ 1 (16 * s + v)) C (16 * t + x) h1 rfl (by omega) dX5_copyVolume_30 ?_
  refine z_aload_n C rfl dX5_copyVolume_31 ?_
  refine gf_X5_13 C dX5_copyVolume_32 ?_
  refine z_iload C rfl dX5_copyVolume_35 ?_
  refine z_aload_n C rfl dX5_copyVolume_37 ?_
  refine gf_X5_13 C dX5_copyVolume_38 ?_
  refine z_iload C rfl dX5_copyVolume_41 ?_
  refine al_115 (v := μ 2 (16 * s + v)) C (16 * s + v) rfl (by omega) (show _ = μ 2 (16 * s + v) by simp [up]) dX5_copyVolume_43 ?_
  refine as_115 (x := μ 2 (16 * s + v)) C (16 * t + x) rfl (by omega) dX5_copyVolume_44 ?_
  refine z_aload_n C rfl dX5_copyVolume_45 ?_
  refine gf_X5_17 C dX5_copyVolume_46 ?_
  refine z_iload C rfl dX5_copyVolume_49 ?_
  refine z_aload_n C rfl dX5_copyVolume_51 ?_
  refine gf_X5_17 C dX5_copyVolume_52 ?_
  refine z_iload C rfl dX5_copyVolume_55 ?_
  refine al_116 (v := μ 3 (16 * s + v)) C (16 * s + v) rfl (by omega) (show _ = μ 3 (16 * s + v) by simp [up]) dX5_copyVolume_57 ?_
  refine as_116 (x := μ 3 (16 * s + v)) C (16 * t + x) h3 rfl (by omega) dX5_copyVolume_58 ?_
  refine z_aload_n C rfl dX5_copyVolume_59 ?_
  refine gf_X5_20 C dX5_copyVolume_60 ?_
  refine z_iload C rfl dX5_copyVolume_63 ?_
  refine z_aload_n C rfl dX5_copyVolume_65 ?_
  refine gf_X5_20 C dX5_copyVolume_66 ?_
  refine z_iload C rfl dX5_copyVolume_69 ?_
  refine al_117 (v := μ 4 (16 * s + v)) C (16 * s + v) rfl (by omega) (show _ = μ 4 (16 * s + v) by simp [up]) dX5_copyVolume_71 ?_
  refine as_117 (x := μ 4 (16 * s + v)) C (16 * t + x) rfl (by omega) dX5_copyVolume_72 ?_
  refine z_iconst (v := 0) C (by decide +kernel) dX5_copyVolume_73 ?_
  refine z_istore (ls' := [some (.ref (n0 + 113)), some (.int (nI s)), some (.int (nI v)), some (.int (nI t)), some (.int (nI x)), some (.int (nI (16 * s + v))), some (.int (nI (16 * t + x))), some (.int 0)]) C (by decide) rfl dX5_copyVolume_74 ?_
  refine z_cast (σ1 := (κ, iterK (mCpM (16 * s + v) (16 * t + x)) 0 (up (up (up (up μ 1 (16 * t + x) (μ 1 (16 * s + v))) 2 (16 * t + x) (μ 2 (16 * s + v))) 3 (16 * t + x) (μ 3 (16 * s + v))) 4 (16 * t + x) (μ 4 (16 * s + v))), o)) (ls' := [some (.ref (n0 + 113)), none, none, none, none, some (.int (nI (16 * s + v))), some (.int (nI (16 * t + x))), some (.int (nI 0))]) (st' := []) (z_for (P := fun i => ZZ pp l ee (rmk 0 0) ss mm aa bb me cd D n0 127 8 0 0 Q (κ, iterK (mCpM (16 * s + v) (16 * t + x)) i (up (up (up (up μ 1 (16 * t + x) (μ 1 (16 * s + v))) 2 (16 * t + x) (μ 2 (16 * s + v))) 3 (16 * t + x) (μ 3 (16 * s + v))) 4 (16 * t + x) (μ 4 (16 * s + v))), o) 76 [some (.ref (n0 + 113)), none, none, none, none, some (.int (nI (16 * s + v))), some (.int (nI (16 * t + x))), some (.int (nI i))] []) (40) ?_ ?_ 0 (Nat.zero_le _)) rfl ⟨rfl, rfl, rfl, rfl, trivial⟩ rfl
  · skip
    refine z_iload C rfl dX5_copyVolume_76 ?_
    refine z_bipush (v := 40) C (by decide +kernel) dX5_copyVolume_78 ?_
    refine z_icmp_ge (tgt := 115) C dX5_copyVolume_80 (by decide) (fun h_80 => ?_) (fun h_80 => ?_)
    · have g_80 := cv_le (a := 40) (b := 40) (by omega) (by omega) h_80
      exact z_endV (hret _ _ dX5_copyVolume_115) rfl
    · have g_80 := cv_nle (a := 40) (b := 40) (by omega) (by omega) h_80
      exact absurd g_80 (by omega)
  · intro i hi_76 ih_76
    refine z_iload C rfl dX5_copyVolume_76 ?_
    refine z_bipush (v := 40) C (by decide +kernel) dX5_copyVolume_78 ?_
    refine z_icmp_ge (tgt := 115) C dX5_copyVolume_80 (by decide) (fun h_80 => ?_) (fun h_80 => ?_)
    · have g_80 := cv_le (a := 40) (b := i) (by omega) (by omega) h_80
      exact absurd hi_76 (by omega)
    · have g_80 := cv_nle (a := 40) (b := i) (by omega) (by omega) h_80
      refine z_aload_n C rfl dX5_copyVolume_83 ?_
      refine gf_X5_26 C dX5_copyVolume_84 ?_
      refine z_bipush (v := 40) C (by decide +kernel) dX5_copyVolume_87 ?_
      refine z_iload C rfl dX5_copyVolume_89 ?_
      refine z_imul (v := nI (40 * (16 * t + x))) C (cv_mul 40 (16 * t + x)) dX5_copyVolume_91 ?_
      refine z_iload C rfl dX5_copyVolume_92 ?_
      refine z_iadd (v := nI (40 * (16 * t + x) + i)) C (cv_add (40 * (16 * t + x)) i) dX5_copyVolume_94 ?_
      refine z_aload_n C rfl dX5_copyVolume_95 ?_
      refine gf_X5_26 C dX5_copyVolume_96 ?_
      refine z_bipush (v := 40) C (by decide +kernel) dX5_copyVolume_99 ?_
      refine z_iload C rfl dX5_copyVolume_101 ?_
      refine z_imul (v := nI (40 * (16 * s + v))) C (cv_mul 40 (16 * s + v)) dX5_copyVolume_103 ?_
      refine z_iload C rfl dX5_copyVolume_104 ?_
      refine z_iadd (v := nI (40 * (16 * s + v) + i)) C (cv_add (40 * (16 * s + v)) i) dX5_copyVolume_106 ?_
      refine al_119 (v := iterK (mCpM (16 * s + v) (16 * t + x)) i (up (up (up (up μ 1 (16 * t + x) (μ 1 (16 * s + v))) 2 (16 * t + x) (μ 2 (16 * s + v))) 3 (16 * t + x) (μ 3 (16 * s + v))) 4 (16 * t + x) (μ 4 (16 * s + v))) 6 (40 * (16 * s + v) + i)) C (40 * (16 * s + v) + i) rfl (by omega) rfl dX5_copyVolume_107 ?_
      refine as_119 (x := iterK (mCpM (16 * s + v) (16 * t + x)) i (up (up (up (up μ 1 (16 * t + x) (μ 1 (16 * s + v))) 2 (16 * t + x) (μ 2 (16 * s + v))) 3 (16 * t + x) (μ 3 (16 * s + v))) 4 (16 * t + x) (μ 4 (16 * s + v))) 6 (40 * (16 * s + v) + i)) C (40 * (16 * t + x) + i) rfl (by omega) dX5_copyVolume_108 ?_
      refine z_iinc (v := nI (i + 1)) (ls' := [some (.ref (n0 + 113)), none, none, none, none, some (.int (nI (16 * s + v))), some (.int (nI (16 * t + x))), some (.int (nI (i + 1)))]) C rfl (cv_inc i 1) (by decide) rfl dX5_copyVolume_109 ?_
      refine z_goto (tgt := 76) C dX5_copyVolume_112 (by decide) ?_
      exact z_cast (σ1 := (κ, iterK (mCpM (16 * s + v) (16 * t + x)) (i + 1) (up (up (up (up μ 1 (16 * t + x) (μ 1 (16 * s + v))) 2 (16 * t + x) (μ 2 (16 * s + v))) 3 (16 * t + x) (μ 3 (16 * s + v))) 4 (16 * t + x) (μ 4 (16 * s + v))), o)) (ls' := [some (.ref (n0 + 113)), none, none, none, none, some (.int (nI (16 * s + v))), some (.int (nI (16 * t + x))), some (.int (nI (i + 1)))]) (st' := []) (ih_76) rfl ⟨rfl, rfl, rfl, rfl, trivial⟩ rfl
set_option maxHeartbeats 4000000 in
set_option maxRecDepth 100000 in
theorem c_X5_needs (l : Launch) (D : DD) (n0 : Nat) (κ μ : KH) (o : Int64) (v q : Nat) (hv : v < 16) (hq : q < 40) : HM l D n0 yX5_needs cX5_needs 4 (some .boolean) 3 68 [.ref (n0 + 113), .int (nI v), .int (nI q)] (κ, μ, o) (some (.int (b2i (mNeed μ v q)))) (κ, μ, o) := by
  refine HM.of (by decide) (by simp [Value.category]) (by simp) (Or.inr (Or.inl ⟨_, .boolean, rfl, rfl, (b2i_nar _)⟩)) ?_
  intro pp ee ss mm aa bb me cd Q C K hret
  show ZZ pp l ee (rmk 3 68) ss mm aa bb me cd D n0 127 4 0 0 Q _ 0 [some (.ref (n0 + 113)), some (.int (nI v)), some (.int (nI q)), none] []
  refine z_aload_n C rfl dX5_needs_0 ?_
  refine gf_X5_26 C dX5_needs_1 ?_
  refine z_iconst (v := 0) C (by decide +kernel) dX5_needs_4 ?_
  refine z_iload_n C rfl dX5_needs_5 ?_
  refine z_iload_n C rfl dX5_needs_6 ?_
  refine z_callS (As := [.int 0, .int (nI v), .int (nI q)]) (r := (some (.int (nI (40 * v + q))))) (σ1 := (κ, μ, o)) (st := [.ref (n0 + 119)]) (st1 := [.int (nI (40 * v + q)), .ref (n0 + 119)]) C K ok_X5_58 (c_X5_at0 l D n0 κ μ o v q) rfl ⟨by decide, by decide⟩ ⟨Nat.zero_le _, Nat.zero_le _⟩ (by simp [Value.category]) dX5_needs_7 rfl rfl ?_
  refine al_119 (v := μ 6 (40 * v + q)) C (40 * v + q) rfl (by omega) rfl dX5_needs_10 ?_
  refine z_istore_n (ls' := [some (.ref (n0 + 113)), some (.int (nI v)), some (.int (nI q)), some (.int (μ 6 (40 * v + q)))]) C (by decide) rfl dX5_needs_11 ?_
  refine z_iload_n C rfl dX5_needs_12 ?_
  refine z_iconst (v := (-1)) C (by decide +kernel) dX5_needs_13 ?_
  refine z_icmp_eq (tgt := 25) C dX5_needs_14 (by decide) (fun h_14 => ?_) (fun h_14 => ?_)
  · skip
    refine z_iconst (v := 1) C (by decide +kernel) dX5_needs_25 ?_
    refine z_goto (tgt := 30) C dX5_needs_26 (by decide) ?_
    exact z_endI (hret _ _ dX5_needs_30) (b2i_1 (by simp [mNeed, h_14])) rfl
  · skip
    refine z_aload_n C rfl dX5_needs_17 ?_
    refine z_iload_n C rfl dX5_needs_18 ?_
    refine z_callV (As := [.int (μ 6 (40 * v + q))]) (r := (some (.int (b2i (mSole μ (μ 6 (40 * v + q))))))) (σ1 := (κ, μ, o)) (st := []) (st1 := [.int (b2i (mSole μ (μ 6 (40 * v + q))))]) C K ok_X5_73 (c_X5_isSole l D n0 κ μ o (μ 6 (40 * v + q))) enc_M (by decide) rfl rfl ⟨by decide, by decide⟩ ⟨Nat.zero_le _, Nat.zero_le _⟩ (by simp [Value.category]) dX5_needs_19 rfl rfl ?_
    refine z_if_ne (tgt := 29) C dX5_needs_22 (by decide) (fun h_22 => ?_) (fun h_22 => ?_)
    · have g_22 := cv_b1 h_22
      refine z_iconst (v := 0) C (by decide +kernel) dX5_needs_29 ?_
      exact z_endI (hret _ _ dX5_needs_30) (b2i_0 (by simp [mNeed, h_14, g_22])) rfl
    · have g_22 := cv_b0 h_22
      refine z_iconst (v := 1) C (by decide +kernel) dX5_needs_25 ?_
      refine z_goto (tgt := 30) C dX5_needs_26 (by decide) ?_
      exact z_endI (hret _ _ dX5_needs_30) (b2i_1 (by simp [mNeed, g_22])) rfl
set_option maxHeartbeats 4000000 in
set_option maxRecDepth 100000 in
theorem c_X5_isOver (l : Launch) (D : DD) (n0 : Nat) (κ μ : KH) (o : Int64) (v q : Nat) (hv : v < 16) (hq : q < 40) : HM l D n0 yX5_isOver cX5_isOver 3 (some .boolean) 2 45 [.ref (n0 + 113), .int (nI v), .int (nI q)] (κ, μ, o) (some (.int (b2i (mOver μ v q)))) (κ, μ, o) := by
  refine HM.of (by decide) (by simp [Value.category]) (by simp) (Or.inr (Or.inl ⟨_, .boolean, rfl, rfl, (b2i_nar _)⟩)) ?_
  intro pp ee ss mm aa bb me cd Q C K hret
  show ZZ pp l ee (rmk 2 45) ss mm aa bb me cd D n0 127 3 0 0 Q _ 0 [some (.ref (n0 + 113)), some (.int (nI v)), some (.int (nI q))] []
  refine z_aload_n C rfl dX5_isOver_0 ?_
  refine gf_X5_26 C dX5_isOver_1 ?_
  refine z_iconst (v := 0) C (by decide +kernel) dX5_isOver_4 ?_
  refine z_iload_n C rfl dX5_isOver_5 ?_
  refine z_iload_n C rfl dX5_isOver_6 ?_
  refine z_callS (As := [.int 0, .int (nI v), .int (nI q)]) (r := (some (.int (nI (40 * v + q))))) (σ1 := (κ, μ, o)) (st := [.ref (n0 + 119)]) (st1 := [.int (nI (40 * v + q)), .ref (n0 + 119)]) C K ok_X5_58 (c_X5_at0 l D n0 κ μ o v q) rfl ⟨by decide, by decide⟩ ⟨Nat.zero_le _, Nat.zero_le _⟩ (by simp [Value.category]) dX5_isOver_7 rfl rfl ?_
  refine al_119 (v := μ 6 (40 * v + q)) C (40 * v + q) rfl (by omega) rfl dX5_isOver_10 ?_
  refine z_iconst (v := (-1)) C (by decide +kernel) dX5_isOver_11 ?_
  refine z_icmp_ne (tgt := 43) C dX5_isOver_12 (by decide) (fun h_12 => ?_) (fun h_12 => ?_)
  · skip
    refine z_iconst (v := 0) C (by decide +kernel) dX5_isOver_43 ?_
    exact z_endI (hret _ _ dX5_isOver_44) (b2i_0 (by simp [mOver, h_12])) rfl
  · skip
    refine z_aload_n C rfl dX5_isOver_15 ?_
    refine gf_X5_20 C dX5_isOver_16 ?_
    refine z_iload_n C rfl dX5_isOver_19 ?_
    refine al_117 (v := μ 4 v) C (v) rfl (by omega) rfl dX5_isOver_20 ?_
    refine z_iconst (v := (-1)) C (by decide +kernel) dX5_isOver_21 ?_
    refine z_icmp_eq (tgt := 43) C dX5_isOver_22 (by decide) (fun h_22 => ?_) (fun h_22 => ?_)
    · skip
      refine z_iconst (v := 0) C (by decide +kernel) dX5_isOver_43 ?_
      exact z_endI (hret _ _ dX5_isOver_44) (b2i_0 (by simp [mOver, h_22])) rfl
    · skip
      refine z_aload_n C rfl dX5_isOver_25 ?_
      refine z_iload_n C rfl dX5_isOver_26 ?_
      refine z_callV (As := [.int (nI v)]) (r := (some (.int (nI (mMap μ v))))) (σ1 := (κ, μ, o)) (st := []) (st1 := [.int (nI (mMap μ v))]) C K ok_X5_76 (c_X5_mapped l D n0 κ μ o v (by omega)) enc_M (by decide) rfl rfl ⟨by decide, by decide⟩ ⟨Nat.zero_le _, Nat.zero_le _⟩ (by simp [Value.category]) dX5_isOver_27 rfl rfl ?_
      refine z_aload_n C rfl dX5_isOver_30 ?_
      refine gf_X5_20 C dX5_isOver_31 ?_
      refine z_iload_n C rfl dX5_isOver_34 ?_
      refine al_117 (v := μ 4 v) C (v) rfl (by omega) rfl dX5_isOver_35 ?_
      refine z_icmp_lt (tgt := 43) C dX5_isOver_36 (by decide) (fun h_36 => ?_) (fun h_36 => ?_)
      · skip
        refine z_iconst (v := 0) C (by decide +kernel) dX5_isOver_43 ?_
        exact z_endI (hret _ _ dX5_isOver_44) (b2i_0 (by simp [mOver, h_36])) rfl
      · skip
        refine z_iconst (v := 1) C (by decide +kernel) dX5_isOver_39 ?_
        refine z_goto (tgt := 44) C dX5_isOver_40 (by decide) ?_
        exact z_endI (hret _ _ dX5_isOver_44) (b2i_1 (by simp [mOver, h_12, h_22, h_36])) rfl
set_option maxHeartbeats 4000000 in
set_option maxRecDepth 100000 in
theorem c_X5_wordOf (l : Launch) (D : DD) (n0 : Nat) (κ μ : KH) (o : Int64) (v w : Nat) (hv : v < 16) (hw : w < 160) (hX : isX (μ 6 (40 * v + w / 4))) : HM l D n0 yX5_wordOf cX5_wordOf 4 (some .int) 1 22 [.ref (n0 + 113), .int (nI v), .int (nI w)] (κ, μ, o) (some (.int (mWord μ v w))) (κ, μ, o) := by
  refine HM.of (by decide) (by simp [Value.category]) (by simp) (Or.inr (Or.inl ⟨_, .int, rfl, rfl, rfl⟩)) ?_
  intro pp ee ss mm aa bb me cd Q C K hret
  show ZZ pp l ee (rmk 1 22) ss mm aa bb me cd D n0 127 4 0 0 Q _ 0 [some (.ref (n0 + 113)), some (.int (nI v)), some (.int (nI w)), none] []
  refine z_aload_n C rfl dX5_wordOf_0 ?_
  refine gf_X5_26 C dX5_wordOf_1 ?_
  refine z_iconst (v := 0) C (by decide +kernel) dX5_wordOf_4 ?_
  refine z_iload_n C rfl dX5_wordOf_5 ?_
  refine z_iload_n C rfl dX5_wordOf_6 ?_
  refine z_iconst (v := 4) C (by decide +kernel) dX5_wordOf_7 ?_
  refine z_idiv (v := nI (w / 4)) C (by decide +kernel) (cv_div (by omega) (by decide) (by decide)) dX5_wordOf_8 ?_
  refine z_callS (As := [.int 0, .int (nI v), .int (nI (w / 4))]) (r := (some (.int (nI (40 * v + (w / 4)))))) (σ1 := (κ, μ, o)) (st := [.ref (n0 + 119)]) (st1 := [.int (nI (40 * v + (w / 4))), .ref (n0 + 119)]) C K ok_X5_58 (c_X5_at0 l D n0 κ μ o v (w / 4)) rfl ⟨by decide, by decide⟩ ⟨Nat.zero_le _, Nat.zero_le _⟩ (by simp [Value.category]) dX5_wordOf_9 rfl rfl ?_
  rcases hX with hm | ⟨k, hk, hm⟩
  · skip
    refine al_119 (v := (-1)) C (40 * v + (w / 4)) rfl (by omega) hm dX5_wordOf_12 ?_
    refine z_istore_n (ls' := [some (.ref (n0 + 113)), some (.int (nI v)), some (.int (nI w)), some (.int ((-1)))]) C (by decide) rfl dX5_wordOf_13 ?_
    refine z_iload_n C rfl dX5_wordOf_14 ?_
    refine z_iconst (v := (-1)) C (by decide +kernel) dX5_wordOf_15 ?_
    refine z_icmp_eq (tgt := 34) C dX5_wordOf_16 (by decide) (fun h_16 => ?_) (fun h_16 => ?_)
    · skip
      refine z_aload_n C rfl dX5_wordOf_34 ?_
      refine gf_X5_17 C dX5_wordOf_35 ?_
      refine z_iload_n C rfl dX5_wordOf_38 ?_
      refine al_116 (v := μ 3 v) C (v) rfl (by omega) rfl dX5_wordOf_39 ?_
      refine z_if_eq (tgt := 52) C dX5_wordOf_40 (by decide) (fun h_40 => ?_) (fun h_40 => ?_)
      · skip
        refine z_iconst (v := 0) C (by decide +kernel) dX5_wordOf_52 ?_
        exact z_endI (hret _ _ dX5_wordOf_53) (by simp [mWord, hm, h_40]) rfl
      · skip
        refine z_aload_n C rfl dX5_wordOf_43 ?_
        refine gf_X5_39 C dX5_wordOf_44 ?_
        refine z_iload_n C rfl dX5_wordOf_47 ?_
        refine al_122 (v := μ 9 w) C (w) rfl (by omega) rfl dX5_wordOf_48 ?_
        refine z_goto (tgt := 53) C dX5_wordOf_49 (by decide) ?_
        exact z_endI (hret _ _ dX5_wordOf_53) (by simp [mWord, hm, h_40]) rfl
    · exact absurd h_16 (by decide +kernel)
  · skip
    refine al_119 (v := nI k) C (40 * v + (w / 4)) rfl (by omega) hm dX5_wordOf_12 ?_
    refine z_istore_n (ls' := [some (.ref (n0 + 113)), some (.int (nI v)), some (.int (nI w)), some (.int (nI k))]) C (by decide) rfl dX5_wordOf_13 ?_
    refine z_iload_n C rfl dX5_wordOf_14 ?_
    refine z_iconst (v := (-1)) C (by decide +kernel) dX5_wordOf_15 ?_
    refine z_icmp_eq (tgt := 34) C dX5_wordOf_16 (by decide) (fun h_16 => ?_) (fun h_16 => ?_)
    · exact absurd h_16 (nI_m1 (by omega))
    · skip
      refine z_aload_n C rfl dX5_wordOf_19 ?_
      refine gf_X5_36 C dX5_wordOf_20 ?_
      refine z_iconst (v := 4) C (by decide +kernel) dX5_wordOf_23 ?_
      refine z_iload_n C rfl dX5_wordOf_24 ?_
      refine z_imul (v := nI (4 * k)) C (cv_mul 4 k) dX5_wordOf_25 ?_
      refine z_iload_n C rfl dX5_wordOf_26 ?_
      refine z_iconst (v := 4) C (by decide +kernel) dX5_wordOf_27 ?_
      refine z_irem (v := nI (w % 4)) C (by decide +kernel) (cv_rem (by omega) (by decide) (by decide)) dX5_wordOf_28 ?_
      refine z_iadd (v := nI (4 * k + (w % 4))) C (cv_add (4 * k) (w % 4)) dX5_wordOf_29 ?_
      refine al_121 (v := μ 8 (4 * k + (w % 4))) C (4 * k + (w % 4)) rfl (by omega) rfl dX5_wordOf_30 ?_
      refine z_goto (tgt := 53) C dX5_wordOf_31 (by decide) ?_
      exact z_endI (hret _ _ dX5_wordOf_53) (by simp [mWord, hm, nI_m1 (show k < 2 ^ 31 by omega), nI_clamp (show k < 2 ^ 31 by omega)]) rfl
