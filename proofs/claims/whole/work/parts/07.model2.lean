/-! the queue -/
def tn (x : Int32) : Nat := x.toNatClampNeg
theorem tn_nI {n : Nat} (h : n < 2 ^ 31) : tn (nI n) = n := nI_clamp h
def isN (x : Int32) (b : Nat) : Prop := x = nI (tn x) ∧ tn x < b
theorem isN_nI {n b : Nat} (h : n < b) (hb : b < 2 ^ 31) : isN (nI n) b := by
  unfold isN
  rw [tn_nI (by omega)]
  exact ⟨rfl, h⟩
def nE (μ : KH) : Nat := tn (μ 0 9)
def nQ (μ : KH) : Nat := tn (μ 0 23)
def anyTo (f : Nat → Bool) : Nat → Bool
  | 0 => false
  | n + 1 => anyTo f n || f n
def mW1 (μ : KH) (v p : Nat) (k : Nat) : Bool := decide (μ 10 k = nI v) && decide (μ 11 k / 4 = nI p)
def mWait (μ : KH) (n v p : Nat) : Bool := anyTo (mW1 μ v p) n
def mWIn (μ : KH) (n v a k : Nat) : Bool := anyTo (fun j => mWait μ n v (a + j)) k
def mEnq (μ : KH) (n : Nat) (v w x : Int32) : KH := up (up (up (up μ 10 n v) 11 n w) 12 n x) 0 23 (nI (n + 1))
def mSh (k j : Nat) (m : KH) : KH := up (up (up m 10 (k + j) (m 10 (k + j + 1))) 11 (k + j) (m 11 (k + j + 1))) 12 (k + j) (m 12 (k + j + 1))
theorem mSh_0 (k : Nat) (m : KH) (i : Nat) : ∀ j, iterK (mSh k) j m 0 i = m 0 i
  | 0 => rfl
  | j + 1 => by
    show mSh k j (iterK (mSh k) j m) 0 i = _
    rw [← mSh_0 k m i j]
    simp [mSh, up]
/-- the k-th of n + 1 goes -/
def mUnq (μ : KH) (n k : Nat) : KH := iterK (mSh k) (n - k) (up μ 0 23 (nI n))
/-! taking, and a write that is done -/
def nx (n e : Nat) : Nat := if e + 1 = n then 0 else e + 1
def fndE (μ : KH) (n : Nat) : Nat → Nat → Nat
  | 0, e => e
  | k + 1, e => if mFree μ (nI e) = true then e else fndE μ n k (nx n e)
def mTkE (μ : KH) : Nat := fndE μ (nE μ) (nE μ) (tn (μ 0 12))
def mCw1 (v p e w : Nat) (m : KH) : KH := up m 8 (4 * e + w) (mWord m v (4 * p + w))
def mCw (μ : KH) (v p e : Nat) : KH := iterK (mCw1 v p e) 4 μ
theorem mCw_6 (μ : KH) (v p e : Nat) {c : Nat} (hc : c ≠ 8) (i : Nat) : ∀ j, iterK (mCw1 v p e) j μ c i = μ c i
  | 0 => rfl
  | j + 1 => by
    show mCw1 v p e j (iterK (mCw1 v p e) j μ) c i = _
    rw [← mCw_6 μ v p e hc i j]
    simp [mCw1, up, hc]
def mTk3 (μ : KH) (v p e n : Nat) : KH := up (up (up (mCw μ v p e) 6 (40 * v + p) (nI e)) 0 12 (nI (nx n e))) 0 15 (μ 0 15 + 1)
def mTake (μ : KH) (v p : Nat) : KH := up (mTk3 μ v p (mTkE μ) (nE μ)) 0 14 (μ 0 14 + (if nI (mFM (mTk3 μ v p (mTkE μ) (nE μ)) (nE μ)) = μ 0 13 then 1 else 0))
def mPf1 (μ : KH) (v p : Nat) : KH := if mNeed μ v p = true then mTake μ v p else μ
def mPerf (μ : KH) (v w : Nat) (x : Int32) : KH := up (mPf1 μ v (w / 4)) 8 (4 * tn (mPf1 μ v (w / 4) 6 (40 * v + w / 4)) + w % 4) x
def mPerR (μ : KH) (v w : Nat) : Int32 := if mNeed μ v (w / 4) = false then 0 else if μ 6 (40 * v + w / 4) = -1 then 1 else 2
/-- what taking goes by -/
def mJ (μ : KH) : Prop := isN (μ 0 9) 97 ∧ 1 ≤ nE μ ∧ isN (μ 0 12) (nE μ) ∧ ∀ j, isX (μ 6 j)
theorem mFM_0 {μ : KH} : ∀ n, mFM μ n ≠ 0 → ∃ e, e < n ∧ mFree μ (nI e) = true
  | 0, h => absurd rfl h
  | n + 1, h => by
    by_cases h1 : mFree μ (nI n) = true
    · exact ⟨n, by omega, h1⟩
    · obtain ⟨e, he, hf⟩ := mFM_0 n (fun q => h (by show sumTo (mFr1 μ) (n + 1) = 0; rw [sumTo, show sumTo (mFr1 μ) n = 0 from q, mFr1, if_neg h1]))
      exact ⟨e, by omega, hf⟩
theorem fndE_lt {μ : KH} {n : Nat} (hn : 0 < n) : ∀ k e, e < n → fndE μ n k e < n
  | 0, e, h => h
  | k + 1, e, h => by
    rw [fndE]
    split
    · exact h
    · refine fndE_lt hn k _ ?_
      unfold nx
      split <;> omega
/-- within n steps around it comes to each -/
theorem fndE_free {μ : KH} {n : Nat} (e0 : Nat) (h0 : e0 < n) (hf : mFree μ (nI e0) = true) : ∀ k e, e < n → (e ≤ e0 ∧ e0 < e + k ∨ e0 < e ∧ e0 + n < e + k) → mFree μ (nI (fndE μ n k e)) = true
  | 0, e, h, hk => by omega
  | k + 1, e, h, hk => by
    rw [fndE]
    split
    · assumption
    · rename_i hne
      have hee : e ≠ e0 := fun q => hne (by rw [q]; exact hf)
      refine fndE_free e0 h0 hf k _ ?_ ?_
      · unfold nx; split <;> omega
      · unfold nx; split <;> omega
theorem mTkE_ok {μ : KH} (hJ : mJ μ) (hf : mFM μ (nE μ) ≠ 0) : mTkE μ < nE μ ∧ mFree μ (nI (mTkE μ)) = true := by
  obtain ⟨e0, h0, h1⟩ := mFM_0 _ hf
  have hc := hJ.2.2.1.2
  exact ⟨fndE_lt (by omega) _ _ hc, fndE_free e0 h0 h1 _ _ hc (by omega)⟩
/-- a write waits: done as long as they can be -/
def mDr : Nat → KH → KH
  | 0, x => up x 0 16 0
  | q + 1, x =>
    if mOver x (tn (x 10 0)) (tn (x 11 0) / 4) = true then mDr q (mUnq (up x 0 21 (x 0 21 + 1)) q 0)
    else if mNeed x (tn (x 10 0)) (tn (x 11 0) / 4) = true ∧ mFM x (nE x) = 0 then up x 0 16 (x 0 16)
    else mDr q (mUnq (mPerf x (tn (x 10 0)) (tn (x 11 0)) (x 12 0)) q 0)
def mDrain (μ : KH) : KH := if μ 0 16 = 1 then mDr (nQ μ) μ else up μ 0 16 (μ 0 16)
/-- the queue's entries are words of places -/
def mQok (μ : KH) : Prop := ∀ k, k < nQ μ → isN (μ 10 k) 16 ∧ isN (μ 11 k) 160
/-- the places a .. b of a volume of LIVE are not mapped any more -/
def mUm1 (v a j : Nat) (m : KH) : KH := up m 6 (40 * v + (a + j)) (-1)
def mUnm (μ : KH) (v a b : Nat) : KH := iterK (mUm1 v a) (b - a) μ
def mUmC (μ : KH) (v a b : Nat) : Nat := sumTo (fun j => mMp1 μ v (a + j)) (b - a)
theorem mUm_ix (v a : Nat) (μ : KH) (c i : Nat) (h : c ≠ 6 ∨ ∀ j, i ≠ 40 * v + (a + j) ∨ False) : True := trivial
theorem mUm_at (v a : Nat) (μ : KH) : ∀ (k j : Nat), k ≤ j → iterK (mUm1 v a) k μ 6 (40 * v + (a + j)) = μ 6 (40 * v + (a + j))
  | 0, _, _ => rfl
  | k + 1, j, h => by
    show mUm1 v a k (iterK (mUm1 v a) k μ) 6 (40 * v + (a + j)) = _
    rw [← mUm_at v a μ k j (by omega)]
    unfold mUm1
    exact up_ix (by omega)
theorem mTake_at (μ : KH) (v p : Nat) : mTake μ v p 6 (40 * v + p) = nI (mTkE μ) := by
  simp [mTake, mTk3, up]
theorem mPf1_at {μ : KH} {v p : Nat} (hJ : mJ μ) (hf : mNeed μ v p = true → mFM μ (nE μ) ≠ 0) : ∃ k : Nat, k < 96 ∧ mPf1 μ v p 6 (40 * v + p) = nI k := by
  unfold mPf1
  split
  · rename_i h
    have h1 := mTkE_ok hJ (hf h)
    have h2 : nE μ < 97 := hJ.1.2
    exact ⟨mTkE μ, by omega, mTake_at μ v p⟩
  · rename_i h
    rcases hJ.2.2.2 (40 * v + p) with h1 | ⟨k, hk, h1⟩
    · exact absurd (by simp [mNeed, h1]) h
    · exact ⟨k, hk, h1⟩
theorem mTake_y {μ X : KH} {v p : Nat} (hX : mTk3 μ v p (mTkE μ) (nE μ) = X) (h : nI (mFM X (nE μ)) = μ 0 13) : up X 0 14 (μ 0 14 + 1) = mTake μ v p := by
  subst hX; unfold mTake; rw [if_pos h]
theorem mTake_n {μ X : KH} {v p : Nat} (hX : mTk3 μ v p (mTkE μ) (nE μ) = X) (h : ¬ nI (mFM X (nE μ)) = μ 0 13) : up X 0 14 (μ 0 14 + 0) = mTake μ v p := by
  subst hX; unfold mTake; rw [if_neg h]
theorem st_m {κ μ μ' : KH} {o : Int64} (h : μ = μ') : ((κ, μ, o) : ST) = (κ, μ', o) := by rw [h]
theorem st_k {κ κ' μ : KH} {o : Int64} (h : κ = κ') : ((κ, μ, o) : ST) = (κ', μ, o) := by rw [h]
set_option maxHeartbeats 4000000 in
set_option maxRecDepth 100000 in
theorem c_X5_take (l : Launch) (D : DD) (n0 : Nat) (κ μ : KH) (o : Int64) (v q : Nat) (hv : v < 16) (hq : q < 40) (hJ : mJ μ) (hf : mFM μ (nE μ) ≠ 0) : HM l D n0 yX5_take cX5_take 5 none 4 90 [.ref (n0 + 113), .int (nI v), .int (nI q)] (κ, μ, o) none (κ, mTake μ v q, o) := by
  refine HM.of (by decide) (by simp [Value.category]) (by simp) (Or.inl ⟨rfl, rfl⟩) ?_
  intro pp ee ss mm aa bb me cd Q C K hret
  show ZZ pp l ee (rmk 4 90) ss mm aa bb me cd D n0 127 5 0 0 Q _ 0 [some (.ref (n0 + 113)), some (.int (nI v)), some (.int (nI q)), none, none] []
  obtain ⟨hJ1, hJ2, hJ3, hJ4⟩ := id hJ
  have hn : nE μ < 97 := hJ1.2
  have hcu : tn (μ 0 12) < nE μ := hJ3.2
  obtain ⟨hk, hfr⟩ := mTkE_ok hJ hf
  have hkv : mTkE μ < 96 := by omega
  refine z_aload_n C rfl dX5_take_0 ?_
  refine gf_X5_80 (v := nI (tn (μ 0 12))) C hJ3.1 dX5_take_1 ?_
  refine z_aload_n C rfl dX5_take_4 ?_
  refine gf_X5_32 (v := nI (nE μ)) C hJ1.1 dX5_take_5 ?_
  refine z_icmp_ge (tgt := 18) C dX5_take_8 (by decide) (fun h_8 => ?_) (fun h_8 => ?_)
  · have g_8 := cv_le (a := nE μ) (b := tn (μ 0 12)) (by omega) (by omega) h_8
    exact absurd g_8 (by omega)
  · have g_8 := cv_nle (a := nE μ) (b := tn (μ 0 12)) (by omega) (by omega) h_8
    refine z_aload_n C rfl dX5_take_11 ?_
    refine gf_X5_80 (v := nI (tn (μ 0 12))) C hJ3.1 dX5_take_12 ?_
    refine z_goto (tgt := 19) C dX5_take_15 (by decide) ?_
    refine z_istore_n (ls' := [some (.ref (n0 + 113)), some (.int (nI v)), some (.int (nI q)), some (.int (nI (tn (μ 0 12)))), none]) C (by decide) rfl dX5_take_19 ?_
    have hx_49 : ZZ pp l ee (rmk 4 90) ss mm aa bb me cd D n0 127 5 0 0 Q (κ, μ, o) 49 [some (.ref (n0 + 113)), some (.int (nI v)), some (.int (nI q)), some (.int (nI (mTkE μ))), none] [] := by
      refine z_iconst (v := 0) C (by decide +kernel) dX5_take_49 ?_
      refine z_istore (ls' := [some (.ref (n0 + 113)), some (.int (nI v)), some (.int (nI q)), some (.int (nI (mTkE μ))), some (.int 0)]) C (by decide) rfl dX5_take_50 ?_
      refine z_cast (σ1 := (κ, iterK (mCw1 v q (mTkE μ)) 0 μ, o)) (ls' := [some (.ref (n0 + 113)), some (.int (nI v)), some (.int (nI q)), some (.int (nI (mTkE μ))), some (.int (nI 0))]) (st' := []) (z_for (P := fun i => ZZ pp l ee (rmk 4 90) ss mm aa bb me cd D n0 127 5 0 0 Q (κ, iterK (mCw1 v q (mTkE μ)) i μ, o) 52 [some (.ref (n0 + 113)), some (.int (nI v)), some (.int (nI q)), some (.int (nI (mTkE μ))), some (.int (nI i))] []) (4) ?_ ?_ 0 (Nat.zero_le _)) rfl ⟨rfl, rfl, rfl, rfl, rfl, trivial⟩ rfl
      · skip
        refine z_iload C rfl dX5_take_52 ?_
        refine z_iconst (v := 4) C (by decide +kernel) dX5_take_54 ?_
        refine z_icmp_ge (tgt := 86) C dX5_take_55 (by decide) (fun h_55 => ?_) (fun h_55 => ?_)
        · have g_55 := cv_le (a := 4) (b := 4) (by omega) (by omega) h_55
          refine z_aload_n C rfl dX5_take_86 ?_
          refine gf_X5_26 C dX5_take_87 ?_
          refine z_iconst (v := 0) C (by decide +kernel) dX5_take_90 ?_
          refine z_iload_n C rfl dX5_take_91 ?_
          refine z_iload_n C rfl dX5_take_92 ?_
          refine z_callS (As := [.int 0, .int (nI v), .int (nI q)]) (r := (some (.int (nI (40 * v + q))))) (σ1 := (κ, iterK (mCw1 v q (mTkE μ)) 4 μ, o)) (st := [.ref (n0 + 119)]) (st1 := [.int (nI (40 * v + q)), .ref (n0 + 119)]) C K ok_X5_58 (c_X5_at0 l D n0 κ (iterK (mCw1 v q (mTkE μ)) 4 μ) o v q) rfl ⟨by decide, by decide⟩ ⟨Nat.zero_le _, Nat.zero_le _⟩ (by simp [Value.category]) dX5_take_93 rfl rfl ?_
          refine z_iload_n C rfl dX5_take_96 ?_
          refine as_119 (x := nI (mTkE μ)) C (40 * v + q) rfl (by omega) dX5_take_97 ?_
          refine z_aload_n C rfl dX5_take_98 ?_
          refine z_iload_n C rfl dX5_take_99 ?_
          refine z_iconst (v := 1) C (by decide +kernel) dX5_take_100 ?_
          refine z_iadd (v := nI (mTkE μ + 1)) C (cv_add (mTkE μ) 1) dX5_take_101 ?_
          refine z_aload_n C rfl dX5_take_102 ?_
          refine gf_X5_32 (v := nI (nE μ)) C ((show _ = iterK (mCw1 v q (mTkE μ)) 4 μ 0 9 by simp [up]).trans ((mCw_6 μ v q (mTkE μ) (by decide) 9 4).trans hJ1.1)) dX5_take_103 ?_
          refine z_icmp_ne (tgt := 113) C dX5_take_106 (by decide) (fun h_106 => ?_) (fun h_106 => ?_)
          · have g_106 := cv_ne (a := mTkE μ + 1) (b := nE μ) h_106
            refine z_iload_n C rfl dX5_take_113 ?_
            refine z_iconst (v := 1) C (by decide +kernel) dX5_take_114 ?_
            refine z_iadd (v := nI (mTkE μ + 1)) C (cv_add (mTkE μ) 1) dX5_take_115 ?_
            refine pf_X5_80 (x := nI (mTkE μ + 1)) C dX5_take_116 ?_
            refine z_aload_n C rfl dX5_take_119 ?_
            refine z_dup C rfl dX5_take_120 ?_
            refine gf_X5_86 (v := μ 0 15) C ((show _ = iterK (mCw1 v q (mTkE μ)) 4 μ 0 15 by simp [up]).trans (mCw_6 μ v q (mTkE μ) (by decide) 15 4)) dX5_take_121 ?_
            refine z_iconst (v := 1) C (by decide +kernel) dX5_take_124 ?_
            refine z_iadd (v := (μ 0 15) + 1) C rfl dX5_take_125 ?_
            refine pf_X5_86 (x := (μ 0 15) + 1) C dX5_take_126 ?_
            refine z_aload_n C rfl dX5_take_129 ?_
            refine z_dup C rfl dX5_take_130 ?_
            refine gf_X5_89 (v := μ 0 14) C ((show _ = iterK (mCw1 v q (mTkE μ)) 4 μ 0 14 by simp [up]).trans (mCw_6 μ v q (mTkE μ) (by decide) 14 4)) dX5_take_131 ?_
            refine z_aload_n C rfl dX5_take_134 ?_
            have hE9 : up (up (up (iterK (mCw1 v q (mTkE μ)) 4 μ) 6 (40 * v + q) (nI (mTkE μ))) 0 12 (nI (mTkE μ + 1))) 0 15 ((μ 0 15) + 1) 0 9 = nI (nE μ) := (show _ = iterK (mCw1 v q (mTkE μ)) 4 μ 0 9 by simp [up]).trans ((mCw_6 μ v q (mTkE μ) (by decide) 9 4).trans hJ1.1)
            have hfm := mFM_le (up (up (up (iterK (mCw1 v q (mTkE μ)) 4 μ) 6 (40 * v + q) (nI (mTkE μ))) 0 12 (nI (mTkE μ + 1))) 0 15 ((μ 0 15) + 1)) (nE μ)
            refine z_callV (As := []) (r := (some (.int (nI (mFM (up (up (up (iterK (mCw1 v q (mTkE μ)) 4 μ) 6 (40 * v + q) (nI (mTkE μ))) 0 12 (nI (mTkE μ + 1))) 0 15 ((μ 0 15) + 1)) (nE μ)))))) (σ1 := (κ, up (up (up (iterK (mCw1 v q (mTkE μ)) 4 μ) 6 (40 * v + q) (nI (mTkE μ))) 0 12 (nI (mTkE μ + 1))) 0 15 ((μ 0 15) + 1), o)) (st := [.int (μ 0 14), .ref (n0 + 113)]) (st1 := [.int (nI (mFM (up (up (up (iterK (mCw1 v q (mTkE μ)) 4 μ) 6 (40 * v + q) (nI (mTkE μ))) 0 12 (nI (mTkE μ + 1))) 0 15 ((μ 0 15) + 1)) (nE μ))), .int (μ 0 14), .ref (n0 + 113)]) C K ok_X5_92 (c_X5_freeMany l D n0 κ (up (up (up (iterK (mCw1 v q (mTkE μ)) 4 μ) 6 (40 * v + q) (nI (mTkE μ))) 0 12 (nI (mTkE μ + 1))) 0 15 ((μ 0 15) + 1)) o (nE μ) hE9 (by omega)) enc_M (by decide) rfl rfl ⟨by decide, by decide⟩ ⟨Nat.zero_le _, Nat.zero_le _⟩ (by simp [Value.category]) dX5_take_135 rfl rfl ?_
            refine z_aload_n C rfl dX5_take_138 ?_
            refine gf_X5_96 (v := μ 0 13) C ((show _ = iterK (mCw1 v q (mTkE μ)) 4 μ 0 13 by simp [up]).trans (mCw_6 μ v q (mTkE μ) (by decide) 13 4)) dX5_take_139 ?_
            refine z_icmp_ne (tgt := 149) C dX5_take_142 (by decide) (fun h_142 => ?_) (fun h_142 => ?_)
            · skip
              refine z_iconst (v := 0) C (by decide +kernel) dX5_take_149 ?_
              refine z_iadd (v := (μ 0 14) + 0) C rfl dX5_take_150 ?_
              refine pf_X5_89 (x := (μ 0 14) + 0) C dX5_take_151 ?_
              exact z_endV (hret _ _ dX5_take_154) (st_m (mTake_n (by simp [mTk3, mCw, nx, g_106, nI_0]) h_142))
            · skip
              refine z_iconst (v := 1) C (by decide +kernel) dX5_take_145 ?_
              refine z_goto (tgt := 150) C dX5_take_146 (by decide) ?_
              refine z_iadd (v := (μ 0 14) + 1) C rfl dX5_take_150 ?_
              refine pf_X5_89 (x := (μ 0 14) + 1) C dX5_take_151 ?_
              exact z_endV (hret _ _ dX5_take_154) (st_m (mTake_y (by simp [mTk3, mCw, nx, g_106, nI_0]) h_142))
          · have g_106 := cv_eq (a := mTkE μ + 1) (b := nE μ) (by omega) (by omega) h_106
            refine z_iconst (v := 0) C (by decide +kernel) dX5_take_109 ?_
            refine z_goto (tgt := 116) C dX5_take_110 (by decide) ?_
            refine pf_X5_80 (x := 0) C dX5_take_116 ?_
            refine z_aload_n C rfl dX5_take_119 ?_
            refine z_dup C rfl dX5_take_120 ?_
            refine gf_X5_86 (v := μ 0 15) C ((show _ = iterK (mCw1 v q (mTkE μ)) 4 μ 0 15 by simp [up]).trans (mCw_6 μ v q (mTkE μ) (by decide) 15 4)) dX5_take_121 ?_
            refine z_iconst (v := 1) C (by decide +kernel) dX5_take_124 ?_
            refine z_iadd (v := (μ 0 15) + 1) C rfl dX5_take_125 ?_
            refine pf_X5_86 (x := (μ 0 15) + 1) C dX5_take_126 ?_
            refine z_aload_n C rfl dX5_take_129 ?_
            refine z_dup C rfl dX5_take_130 ?_
            refine gf_X5_89 (v := μ 0 14) C ((show _ = iterK (mCw1 v q (mTkE μ)) 4 μ 0 14 by simp [up]).trans (mCw_6 μ v q (mTkE μ) (by decide) 14 4)) dX5_take_131 ?_
            refine z_aload_n C rfl dX5_take_134 ?_
            have hE9 : up (up (up (iterK (mCw1 v q (mTkE μ)) 4 μ) 6 (40 * v + q) (nI (mTkE μ))) 0 12 0) 0 15 ((μ 0 15) + 1) 0 9 = nI (nE μ) := (show _ = iterK (mCw1 v q (mTkE μ)) 4 μ 0 9 by simp [up]).trans ((mCw_6 μ v q (mTkE μ) (by decide) 9 4).trans hJ1.1)
            have hfm := mFM_le (up (up (up (iterK (mCw1 v q (mTkE μ)) 4 μ) 6 (40 * v + q) (nI (mTkE μ))) 0 12 0) 0 15 ((μ 0 15) + 1)) (nE μ)
            refine z_callV (As := []) (r := (some (.int (nI (mFM (up (up (up (iterK (mCw1 v q (mTkE μ)) 4 μ) 6 (40 * v + q) (nI (mTkE μ))) 0 12 0) 0 15 ((μ 0 15) + 1)) (nE μ)))))) (σ1 := (κ, up (up (up (iterK (mCw1 v q (mTkE μ)) 4 μ) 6 (40 * v + q) (nI (mTkE μ))) 0 12 0) 0 15 ((μ 0 15) + 1), o)) (st := [.int (μ 0 14), .ref (n0 + 113)]) (st1 := [.int (nI (mFM (up (up (up (iterK (mCw1 v q (mTkE μ)) 4 μ) 6 (40 * v + q) (nI (mTkE μ))) 0 12 0) 0 15 ((μ 0 15) + 1)) (nE μ))), .int (μ 0 14), .ref (n0 + 113)]) C K ok_X5_92 (c_X5_freeMany l D n0 κ (up (up (up (iterK (mCw1 v q (mTkE μ)) 4 μ) 6 (40 * v + q) (nI (mTkE μ))) 0 12 0) 0 15 ((μ 0 15) + 1)) o (nE μ) hE9 (by omega)) enc_M (by decide) rfl rfl ⟨by decide, by decide⟩ ⟨Nat.zero_le _, Nat.zero_le _⟩ (by simp [Value.category]) dX5_take_135 rfl rfl ?_
            refine z_aload_n C rfl dX5_take_138 ?_
            refine gf_X5_96 (v := μ 0 13) C ((show _ = iterK (mCw1 v q (mTkE μ)) 4 μ 0 13 by simp [up]).trans (mCw_6 μ v q (mTkE μ) (by decide) 13 4)) dX5_take_139 ?_
            refine z_icmp_ne (tgt := 149) C dX5_take_142 (by decide) (fun h_142 => ?_) (fun h_142 => ?_)
            · skip
              refine z_iconst (v := 0) C (by decide +kernel) dX5_take_149 ?_
              refine z_iadd (v := (μ 0 14) + 0) C rfl dX5_take_150 ?_
              refine pf_X5_89 (x := (μ 0 14) + 0) C dX5_take_151 ?_
              exact z_endV (hret _ _ dX5_take_154) (st_m (mTake_n (by simp [mTk3, mCw, nx, g_106, nI_0]) h_142))
            · skip
              refine z_iconst (v := 1) C (by decide +kernel) dX5_take_145 ?_
              refine z_goto (tgt := 150) C dX5_take_146 (by decide) ?_
              refine z_iadd (v := (μ 0 14) + 1) C rfl dX5_take_150 ?_
              refine pf_X5_89 (x := (μ 0 14) + 1) C dX5_take_151 ?_
              exact z_endV (hret _ _ dX5_take_154) (st_m (mTake_y (by simp [mTk3, mCw, nx, g_106, nI_0]) h_142))
        · have g_55 := cv_nle (a := 4) (b := 4) (by omega) (by omega) h_55
          exact absurd g_55 (by omega)
      · intro i hi_52 ih_52
        refine z_iload C rfl dX5_take_52 ?_
        refine z_iconst (v := 4) C (by decide +kernel) dX5_take_54 ?_
        refine z_icmp_ge (tgt := 86) C dX5_take_55 (by decide) (fun h_55 => ?_) (fun h_55 => ?_)
        · have g_55 := cv_le (a := 4) (b := i) (by omega) (by omega) h_55
          exact absurd hi_52 (by omega)
        · have g_55 := cv_nle (a := 4) (b := i) (by omega) (by omega) h_55
          refine z_aload_n C rfl dX5_take_58 ?_
          refine gf_X5_36 C dX5_take_59 ?_
          refine z_iconst (v := 4) C (by decide +kernel) dX5_take_62 ?_
          refine z_iload_n C rfl dX5_take_63 ?_
          refine z_imul (v := nI (4 * (mTkE μ))) C (cv_mul 4 (mTkE μ)) dX5_take_64 ?_
          refine z_iload C rfl dX5_take_65 ?_
          refine z_iadd (v := nI (4 * (mTkE μ) + i)) C (cv_add (4 * (mTkE μ)) i) dX5_take_67 ?_
          refine z_aload_n C rfl dX5_take_68 ?_
          refine z_iload_n C rfl dX5_take_69 ?_
          refine z_iconst (v := 4) C (by decide +kernel) dX5_take_70 ?_
          refine z_iload_n C rfl dX5_take_71 ?_
          refine z_imul (v := nI (4 * q)) C (cv_mul 4 q) dX5_take_72 ?_
          refine z_iload C rfl dX5_take_73 ?_
          refine z_iadd (v := nI (4 * q + i)) C (cv_add (4 * q) i) dX5_take_75 ?_
          refine z_callV (As := [.int (nI v), .int (nI (4 * q + i))]) (r := (some (.int (mWord (iterK (mCw1 v q (mTkE μ)) i μ) v (4 * q + i))))) (σ1 := (κ, iterK (mCw1 v q (mTkE μ)) i μ, o)) (st := [.int (nI (4 * (mTkE μ) + i)), .ref (n0 + 121)]) (st1 := [.int (mWord (iterK (mCw1 v q (mTkE μ)) i μ) v (4 * q + i)), .int (nI (4 * (mTkE μ) + i)), .ref (n0 + 121)]) C K ok_X5_83 (c_X5_wordOf l D n0 κ (iterK (mCw1 v q (mTkE μ)) i μ) o v (4 * q + i) hv (by omega) (by rw [mCw_6 μ v q (mTkE μ) (by decide)]; exact hJ4 _)) enc_M (by decide) rfl rfl ⟨by decide, by decide⟩ ⟨Nat.zero_le _, Nat.zero_le _⟩ (by simp [Value.category]) dX5_take_76 rfl rfl ?_
          refine as_121 (x := mWord (iterK (mCw1 v q (mTkE μ)) i μ) v (4 * q + i)) C (4 * (mTkE μ) + i) rfl (by omega) dX5_take_79 ?_
          refine z_iinc (v := nI (i + 1)) (ls' := [some (.ref (n0 + 113)), some (.int (nI v)), some (.int (nI q)), some (.int (nI (mTkE μ))), some (.int (nI (i + 1)))]) C rfl (cv_inc i 1) (by decide) rfl dX5_take_80 ?_
          refine z_goto (tgt := 52) C dX5_take_83 (by decide) ?_
          exact z_cast (σ1 := (κ, iterK (mCw1 v q (mTkE μ)) (i + 1) μ, o)) (ls' := [some (.ref (n0 + 113)), some (.int (nI v)), some (.int (nI q)), some (.int (nI (mTkE μ))), some (.int (nI (i + 1)))]) (st' := []) (ih_52) rfl ⟨rfl, rfl, rfl, rfl, rfl, trivial⟩ rfl
    have hl_20 : ∀ (k : Nat) (e : Nat), e < nE μ → mFree μ (nI (fndE μ (nE μ) k e)) = true → fndE μ (nE μ) k e = mTkE μ → ZZ pp l ee (rmk 4 90) ss mm aa bb me cd D n0 127 5 0 0 Q (κ, μ, o) 20 [some (.ref (n0 + 113)), some (.int (nI v)), some (.int (nI q)), some (.int (nI e)), none] [] := by
      intro k
      induction k with
      | zero =>
        intro e he hf2 hX
        refine z_aload_n C rfl dX5_take_20 ?_
        refine z_iload_n C rfl dX5_take_21 ?_
        refine z_callV (As := [.int (nI e)]) (r := (some (.int (b2i (mFree μ (nI e)))))) (σ1 := (κ, μ, o)) (st := []) (st1 := [.int (b2i (mFree μ (nI e)))]) C K ok_X5_66 (c_X5_isFree l D n0 κ μ o (nI e)) enc_M (by decide) rfl rfl ⟨by decide, by decide⟩ ⟨Nat.zero_le _, Nat.zero_le _⟩ (by simp [Value.category]) dX5_take_22 rfl rfl ?_
        refine z_if_ne (tgt := 49) C dX5_take_25 (by decide) (fun h_25 => ?_) (fun h_25 => ?_)
        · have g_25 := cv_b1 h_25
          exact z_cast hx_49 rfl ⟨rfl, rfl, rfl, (so_int (by rw [← hX]; rfl)), trivial⟩ rfl
        · have g_25 := cv_b0 h_25
          exact absurd hf2 (by simp [fndE, g_25])
      | succ k ih =>
        intro e he hf2 hX
        refine z_aload_n C rfl dX5_take_20 ?_
        refine z_iload_n C rfl dX5_take_21 ?_
        refine z_callV (As := [.int (nI e)]) (r := (some (.int (b2i (mFree μ (nI e)))))) (σ1 := (κ, μ, o)) (st := []) (st1 := [.int (b2i (mFree μ (nI e)))]) C K ok_X5_66 (c_X5_isFree l D n0 κ μ o (nI e)) enc_M (by decide) rfl rfl ⟨by decide, by decide⟩ ⟨Nat.zero_le _, Nat.zero_le _⟩ (by simp [Value.category]) dX5_take_22 rfl rfl ?_
        refine z_if_ne (tgt := 49) C dX5_take_25 (by decide) (fun h_25 => ?_) (fun h_25 => ?_)
        · have g_25 := cv_b1 h_25
          exact z_cast hx_49 rfl ⟨rfl, rfl, rfl, (so_int (by rw [← hX]; simp [fndE, g_25])), trivial⟩ rfl
        · have g_25 := cv_b0 h_25
          refine z_iload_n C rfl dX5_take_28 ?_
          refine z_iconst (v := 1) C (by decide +kernel) dX5_take_29 ?_
          refine z_iadd (v := nI (e + 1)) C (cv_add e 1) dX5_take_30 ?_
          refine z_aload_n C rfl dX5_take_31 ?_
          refine gf_X5_32 (v := nI (nE μ)) C hJ1.1 dX5_take_32 ?_
          refine z_icmp_ne (tgt := 42) C dX5_take_35 (by decide) (fun h_35 => ?_) (fun h_35 => ?_)
          · have g_35 := cv_ne (a := e + 1) (b := nE μ) h_35
            refine z_iload_n C rfl dX5_take_42 ?_
            refine z_iconst (v := 1) C (by decide +kernel) dX5_take_43 ?_
            refine z_iadd (v := nI (e + 1)) C (cv_add e 1) dX5_take_44 ?_
            refine z_istore_n (ls' := [some (.ref (n0 + 113)), some (.int (nI v)), some (.int (nI q)), some (.int (nI (e + 1))), none]) C (by decide) rfl dX5_take_45 ?_
            refine z_goto (tgt := 20) C dX5_take_46 (by decide) ?_
            exact z_cast (ih (nx (nE μ) e) (by unfold nx; split <;> omega) (by simpa [fndE, g_25] using hf2) (by simpa [fndE, g_25] using hX)) rfl ⟨rfl, rfl, rfl, (so_int (by simp [nx, g_35, nI_0])), trivial⟩ rfl
          · have g_35 := cv_eq (a := e + 1) (b := nE μ) (by omega) (by omega) h_35
            refine z_iconst (v := 0) C (by decide +kernel) dX5_take_38 ?_
            refine z_goto (tgt := 45) C dX5_take_39 (by decide) ?_
            refine z_istore_n (ls' := [some (.ref (n0 + 113)), some (.int (nI v)), some (.int (nI q)), some (.int 0), none]) C (by decide) rfl dX5_take_45 ?_
            refine z_goto (tgt := 20) C dX5_take_46 (by decide) ?_
            exact z_cast (ih (nx (nE μ) e) (by unfold nx; split <;> omega) (by simpa [fndE, g_25] using hf2) (by simpa [fndE, g_25] using hX)) rfl ⟨rfl, rfl, rfl, (so_int (by simp [nx, g_35, nI_0])), trivial⟩ rfl
    exact z_cast (hl_20 (nE μ) (tn (μ 0 12)) hcu hfr rfl) rfl ⟨rfl, rfl, rfl, rfl, trivial⟩ rfl
set_option maxHeartbeats 4000000 in
set_option maxRecDepth 100000 in
theorem c_X5_waits (l : Launch) (D : DD) (n0 : Nat) (κ μ : KH) (o : Int64) (n v q : Nat) (hQ : μ 0 23 = nI n) (hn : n ≤ 8) : HM l D n0 yX5_waits cX5_waits 5 (some .boolean) 0 0 [.ref (n0 + 113), .int (nI v), .int (nI q)] (κ, μ, o) (some (.int (b2i (mWait μ n v q)))) (κ, μ, o) := by
  refine HM.of (by decide) (by simp [Value.category]) (by simp) (Or.inr (Or.inl ⟨_, .boolean, rfl, rfl, (b2i_nar _)⟩)) ?_
  intro pp ee ss mm aa bb me cd Q C K hret
  show ZZ pp l ee (rmk 0 0) ss mm aa bb me cd D n0 127 5 0 0 Q _ 0 [some (.ref (n0 + 113)), some (.int (nI v)), some (.int (nI q)), none, none] []
  refine z_iconst (v := 0) C (by decide +kernel) dX5_waits_0 ?_
  refine z_istore_n (ls' := [some (.ref (n0 + 113)), some (.int (nI v)), some (.int (nI q)), some (.int 0), none]) C (by decide) rfl dX5_waits_1 ?_
  refine z_iconst (v := 0) C (by decide +kernel) dX5_waits_2 ?_
  refine z_istore (ls' := [some (.ref (n0 + 113)), some (.int (nI v)), some (.int (nI q)), some (.int 0), some (.int 0)]) C (by decide) rfl dX5_waits_3 ?_
  refine z_cast (σ1 := (κ, μ, o)) (ls' := [some (.ref (n0 + 113)), some (.int (nI v)), some (.int (nI q)), some (.int (b2i (anyTo (mW1 μ v q) 0))), some (.int (nI 0))]) (st' := []) (z_for (P := fun i => ZZ pp l ee (rmk 0 0) ss mm aa bb me cd D n0 127 5 0 0 Q (κ, μ, o) 5 [some (.ref (n0 + 113)), some (.int (nI v)), some (.int (nI q)), some (.int (b2i (anyTo (mW1 μ v q) i))), some (.int (nI i))] []) (n) ?_ ?_ 0 (Nat.zero_le _)) rfl ⟨rfl, rfl, rfl, (so_int rfl), rfl, trivial⟩ rfl
  · skip
    refine z_iload C rfl dX5_waits_5 ?_
    refine z_aload_n C rfl dX5_waits_7 ?_
    refine gf_X5_107 (v := nI n) C hQ dX5_waits_8 ?_
    refine z_icmp_ge (tgt := 54) C dX5_waits_11 (by decide) (fun h_11 => ?_) (fun h_11 => ?_)
    · have g_11 := cv_le (a := n) (b := n) (by omega) (by omega) h_11
      refine z_iload_n C rfl dX5_waits_54 ?_
      exact z_endI (hret _ _ dX5_waits_55) rfl rfl
    · have g_11 := cv_nle (a := n) (b := n) (by omega) (by omega) h_11
      exact absurd g_11 (by omega)
  · intro i hi_5 ih_5
    refine z_iload C rfl dX5_waits_5 ?_
    refine z_aload_n C rfl dX5_waits_7 ?_
    refine gf_X5_107 (v := nI n) C hQ dX5_waits_8 ?_
    refine z_icmp_ge (tgt := 54) C dX5_waits_11 (by decide) (fun h_11 => ?_) (fun h_11 => ?_)
    · have g_11 := cv_le (a := n) (b := i) (by omega) (by omega) h_11
      exact absurd hi_5 (by omega)
    · have g_11 := cv_nle (a := n) (b := i) (by omega) (by omega) h_11
      refine z_iload_n C rfl dX5_waits_14 ?_
      refine z_if_ne (tgt := 42) C dX5_waits_15 (by decide) (fun h_15 => ?_) (fun h_15 => ?_)
      · have g_15 := cv_b1 h_15
        refine z_iconst (v := 1) C (by decide +kernel) dX5_waits_42 ?_
        refine z_goto (tgt := 47) C dX5_waits_43 (by decide) ?_
        refine z_istore_n (ls' := [some (.ref (n0 + 113)), some (.int (nI v)), some (.int (nI q)), some (.int 1), some (.int (nI i))]) C (by decide) rfl dX5_waits_47 ?_
        refine z_iinc (v := nI (i + 1)) (ls' := [some (.ref (n0 + 113)), some (.int (nI v)), some (.int (nI q)), some (.int 1), some (.int (nI (i + 1)))]) C rfl (cv_inc i 1) (by decide) rfl dX5_waits_48 ?_
        refine z_goto (tgt := 5) C dX5_waits_51 (by decide) ?_
        exact z_cast (σ1 := (κ, μ, o)) (ls' := [some (.ref (n0 + 113)), some (.int (nI v)), some (.int (nI q)), some (.int (b2i (anyTo (mW1 μ v q) (i + 1)))), some (.int (nI (i + 1)))]) (st' := []) (ih_5) rfl ⟨rfl, rfl, rfl, (so_int (b2i_1 (by simp [anyTo, g_15]))), rfl, trivial⟩ rfl
      · have g_15 := cv_b0 h_15
        refine z_aload_n C rfl dX5_waits_18 ?_
        refine gf_X5_42 C dX5_waits_19 ?_
        refine z_iload C rfl dX5_waits_22 ?_
        refine al_123 (v := μ 10 i) C (i) rfl (by omega) rfl dX5_waits_24 ?_
        refine z_iload_n C rfl dX5_waits_25 ?_
        refine z_icmp_ne (tgt := 46) C dX5_waits_26 (by decide) (fun h_26 => ?_) (fun h_26 => ?_)
        · skip
          refine z_iconst (v := 0) C (by decide +kernel) dX5_waits_46 ?_
          refine z_istore_n (ls' := [some (.ref (n0 + 113)), some (.int (nI v)), some (.int (nI q)), some (.int 0), some (.int (nI i))]) C (by decide) rfl dX5_waits_47 ?_
          refine z_iinc (v := nI (i + 1)) (ls' := [some (.ref (n0 + 113)), some (.int (nI v)), some (.int (nI q)), some (.int 0), some (.int (nI (i + 1)))]) C rfl (cv_inc i 1) (by decide) rfl dX5_waits_48 ?_
          refine z_goto (tgt := 5) C dX5_waits_51 (by decide) ?_
          exact z_cast (σ1 := (κ, μ, o)) (ls' := [some (.ref (n0 + 113)), some (.int (nI v)), some (.int (nI q)), some (.int (b2i (anyTo (mW1 μ v q) (i + 1)))), some (.int (nI (i + 1)))]) (st' := []) (ih_5) rfl ⟨rfl, rfl, rfl, (so_int (b2i_0 (by simp [anyTo, g_15, mW1, h_26]))), rfl, trivial⟩ rfl
        · skip
          refine z_aload_n C rfl dX5_waits_29 ?_
          refine gf_X5_45 C dX5_waits_30 ?_
          refine z_iload C rfl dX5_waits_33 ?_
          refine al_124 (v := μ 11 i) C (i) rfl (by omega) rfl dX5_waits_35 ?_
          refine z_iconst (v := 4) C (by decide +kernel) dX5_waits_36 ?_
          refine z_idiv (v := (μ 11 i) / 4) C (by decide +kernel) rfl dX5_waits_37 ?_
          refine z_iload_n C rfl dX5_waits_38 ?_
          refine z_icmp_ne (tgt := 46) C dX5_waits_39 (by decide) (fun h_39 => ?_) (fun h_39 => ?_)
          · skip
            refine z_iconst (v := 0) C (by decide +kernel) dX5_waits_46 ?_
            refine z_istore_n (ls' := [some (.ref (n0 + 113)), some (.int (nI v)), some (.int (nI q)), some (.int 0), some (.int (nI i))]) C (by decide) rfl dX5_waits_47 ?_
            refine z_iinc (v := nI (i + 1)) (ls' := [some (.ref (n0 + 113)), some (.int (nI v)), some (.int (nI q)), some (.int 0), some (.int (nI (i + 1)))]) C rfl (cv_inc i 1) (by decide) rfl dX5_waits_48 ?_
            refine z_goto (tgt := 5) C dX5_waits_51 (by decide) ?_
            exact z_cast (σ1 := (κ, μ, o)) (ls' := [some (.ref (n0 + 113)), some (.int (nI v)), some (.int (nI q)), some (.int (b2i (anyTo (mW1 μ v q) (i + 1)))), some (.int (nI (i + 1)))]) (st' := []) (ih_5) rfl ⟨rfl, rfl, rfl, (so_int (b2i_0 (by simp [anyTo, g_15, mW1, h_39]))), rfl, trivial⟩ rfl
          · skip
            refine z_iconst (v := 1) C (by decide +kernel) dX5_waits_42 ?_
            refine z_goto (tgt := 47) C dX5_waits_43 (by decide) ?_
            refine z_istore_n (ls' := [some (.ref (n0 + 113)), some (.int (nI v)), some (.int (nI q)), some (.int 1), some (.int (nI i))]) C (by decide) rfl dX5_waits_47 ?_
            refine z_iinc (v := nI (i + 1)) (ls' := [some (.ref (n0 + 113)), some (.int (nI v)), some (.int (nI q)), some (.int 1), some (.int (nI (i + 1)))]) C rfl (cv_inc i 1) (by decide) rfl dX5_waits_48 ?_
            refine z_goto (tgt := 5) C dX5_waits_51 (by decide) ?_
            exact z_cast (σ1 := (κ, μ, o)) (ls' := [some (.ref (n0 + 113)), some (.int (nI v)), some (.int (nI q)), some (.int (b2i (anyTo (mW1 μ v q) (i + 1)))), some (.int (nI (i + 1)))]) (st' := []) (ih_5) rfl ⟨rfl, rfl, rfl, (so_int (b2i_1 (by simp [anyTo, g_15, mW1, h_26, h_39]))), rfl, trivial⟩ rfl
set_option maxHeartbeats 4000000 in
set_option maxRecDepth 100000 in
theorem c_X5_enqueue_n (l : Launch) (D : DD) (n0 : Nat) (κ μ : KH) (o : Int64) (v w x : Int32) (hQ : μ 0 23 = nI 8) : HM l D n0 yX5_enqueue cX5_enqueue 4 (some .int) 0 0 [.ref (n0 + 113), .int v, .int w, .int x] (κ, μ, o) (some (.int ((-1)))) (κ, μ, o) := by
  refine HM.of (by decide) (by simp [Value.category]) (by simp) (Or.inr (Or.inl ⟨_, .int, rfl, rfl, rfl⟩)) ?_
  intro pp ee ss mm aa bb me cd Q C K hret
  show ZZ pp l ee (rmk 0 0) ss mm aa bb me cd D n0 127 4 0 0 Q _ 0 [some (.ref (n0 + 113)), some (.int v), some (.int w), some (.int x)] []
  refine z_aload_n C rfl dX5_enqueue_0 ?_
  refine gf_X5_107 (v := 8) C hQ dX5_enqueue_1 ?_
  refine z_bipush (v := 8) C (by decide +kernel) dX5_enqueue_4 ?_
  refine z_icmp_ne (tgt := 11) C dX5_enqueue_6 (by decide) (fun h_6 => ?_) (fun h_6 => ?_)
  · exact absurd h_6 (by decide +kernel)
  · skip
    refine z_iconst (v := (-1)) C (by decide +kernel) dX5_enqueue_9 ?_
    exact z_endI (hret _ _ dX5_enqueue_10) rfl rfl
set_option maxHeartbeats 4000000 in
set_option maxRecDepth 100000 in
theorem c_X5_enqueue (l : Launch) (D : DD) (n0 : Nat) (κ μ : KH) (o : Int64) (n : Nat) (v w x : Int32) (hQ : μ 0 23 = nI n) (hn : n < 8) : HM l D n0 yX5_enqueue cX5_enqueue 4 (some .int) 0 0 [.ref (n0 + 113), .int v, .int w, .int x] (κ, μ, o) (some (.int 3)) (κ, mEnq μ n v w x, o) := by
  refine HM.of (by decide) (by simp [Value.category]) (by simp) (Or.inr (Or.inl ⟨_, .int, rfl, rfl, rfl⟩)) ?_
  intro pp ee ss mm aa bb me cd Q C K hret
  show ZZ pp l ee (rmk 0 0) ss mm aa bb me cd D n0 127 4 0 0 Q _ 0 [some (.ref (n0 + 113)), some (.int v), some (.int w), some (.int x)] []
  refine z_aload_n C rfl dX5_enqueue_0 ?_
  refine gf_X5_107 (v := nI n) C hQ dX5_enqueue_1 ?_
  refine z_bipush (v := 8) C (by decide +kernel) dX5_enqueue_4 ?_
  refine z_icmp_ne (tgt := 11) C dX5_enqueue_6 (by decide) (fun h_6 => ?_) (fun h_6 => ?_)
  · have g_6 := cv_ne (a := n) (b := 8) h_6
    refine z_aload_n C rfl dX5_enqueue_11 ?_
    refine gf_X5_42 C dX5_enqueue_12 ?_
    refine z_aload_n C rfl dX5_enqueue_15 ?_
    refine gf_X5_107 (v := nI n) C hQ dX5_enqueue_16 ?_
    refine z_iload_n C rfl dX5_enqueue_19 ?_
    refine as_123 (x := v) C (n) rfl (by omega) dX5_enqueue_20 ?_
    refine z_aload_n C rfl dX5_enqueue_21 ?_
    refine gf_X5_45 C dX5_enqueue_22 ?_
    refine z_aload_n C rfl dX5_enqueue_25 ?_
    refine gf_X5_107 (v := nI n) C ((show _ = μ 0 23 by simp [up]).trans hQ) dX5_enqueue_26 ?_
    refine z_iload_n C rfl dX5_enqueue_29 ?_
    refine as_124 (x := w) C (n) rfl (by omega) dX5_enqueue_30 ?_
    refine z_aload_n C rfl dX5_enqueue_31 ?_
    refine gf_X5_48 C dX5_enqueue_32 ?_
    refine z_aload_n C rfl dX5_enqueue_35 ?_
    refine gf_X5_107 (v := nI n) C ((show _ = μ 0 23 by simp [up]).trans hQ) dX5_enqueue_36 ?_
    refine z_iload_n C rfl dX5_enqueue_39 ?_
    refine as_125 (x := x) C (n) rfl (by omega) dX5_enqueue_40 ?_
    refine z_aload_n C rfl dX5_enqueue_41 ?_
    refine z_dup C rfl dX5_enqueue_42 ?_
    refine gf_X5_107 (v := nI n) C ((show _ = μ 0 23 by simp [up]).trans hQ) dX5_enqueue_43 ?_
    refine z_iconst (v := 1) C (by decide +kernel) dX5_enqueue_46 ?_
    refine z_iadd (v := nI (n + 1)) C (cv_add n 1) dX5_enqueue_47 ?_
    refine pf_X5_107 (x := nI (n + 1)) C dX5_enqueue_48 ?_
    refine z_iconst (v := 3) C (by decide +kernel) dX5_enqueue_51 ?_
    exact z_endI (hret _ _ dX5_enqueue_52) rfl rfl
  · have g_6 := cv_eq (a := n) (b := 8) (by omega) (by omega) h_6
    exact absurd g_6 (by omega)
set_option maxHeartbeats 4000000 in
set_option maxRecDepth 100000 in
theorem c_X5_unqueue (l : Launch) (D : DD) (n0 : Nat) (κ μ : KH) (o : Int64) (n k : Nat) (hQ : μ 0 23 = nI (n + 1)) (hn : n < 8) (hk : k ≤ n) : HM l D n0 yX5_unqueue cX5_unqueue 3 none 0 0 [.ref (n0 + 113), .int (nI k)] (κ, μ, o) none (κ, mUnq μ n k, o) := by
  refine HM.of (by decide) (by simp [Value.category]) (by simp) (Or.inl ⟨rfl, rfl⟩) ?_
  intro pp ee ss mm aa bb me cd Q C K hret
  show ZZ pp l ee (rmk 0 0) ss mm aa bb me cd D n0 127 3 0 0 Q _ 0 [some (.ref (n0 + 113)), some (.int (nI k)), none] []
  refine z_aload_n C rfl dX5_unqueue_0 ?_
  refine z_dup C rfl dX5_unqueue_1 ?_
  refine gf_X5_107 (v := nI (n + 1)) C hQ dX5_unqueue_2 ?_
  refine z_iconst (v := 1) C (by decide +kernel) dX5_unqueue_5 ?_
  refine z_isub (v := nI n) C (nI_pred n) dX5_unqueue_6 ?_
  refine pf_X5_107 (x := nI n) C dX5_unqueue_7 ?_
  refine z_iload_n C rfl dX5_unqueue_10 ?_
  refine z_istore_n (ls' := [some (.ref (n0 + 113)), some (.int (nI k)), some (.int (nI k))]) C (by decide) rfl dX5_unqueue_11 ?_
  refine z_cast (σ1 := (κ, iterK (mSh k) 0 (up μ 0 23 (nI n)), o)) (ls' := [some (.ref (n0 + 113)), some (.int (nI k)), some (.int (nI (k + 0)))]) (st' := []) (z_for (P := fun j => ZZ pp l ee (rmk 0 0) ss mm aa bb me cd D n0 127 3 0 0 Q (κ, iterK (mSh k) j (up μ 0 23 (nI n)), o) 12 [some (.ref (n0 + 113)), some (.int (nI k)), some (.int (nI (k + j)))] []) (n - k) ?_ ?_ 0 (Nat.zero_le _)) rfl ⟨rfl, rfl, (so_int rfl), trivial⟩ rfl
  · skip
    refine z_iload_n C rfl dX5_unqueue_12 ?_
    refine z_aload_n C rfl dX5_unqueue_13 ?_
    refine gf_X5_107 (v := nI n) C ((mSh_0 k _ 23 _).trans up_self) dX5_unqueue_14 ?_
    refine z_icmp_ge (tgt := 68) C dX5_unqueue_17 (by decide) (fun h_17 => ?_) (fun h_17 => ?_)
    · have g_17 := cv_le (a := n) (b := k + (n - k)) (by omega) (by omega) h_17
      exact z_endV (hret _ _ dX5_unqueue_68) rfl
    · have g_17 := cv_nle (a := n) (b := k + (n - k)) (by omega) (by omega) h_17
      exact absurd g_17 (by omega)
  · intro j hi_12 ih_12
    refine z_iload_n C rfl dX5_unqueue_12 ?_
    refine z_aload_n C rfl dX5_unqueue_13 ?_
    refine gf_X5_107 (v := nI n) C ((mSh_0 k _ 23 _).trans up_self) dX5_unqueue_14 ?_
    refine z_icmp_ge (tgt := 68) C dX5_unqueue_17 (by decide) (fun h_17 => ?_) (fun h_17 => ?_)
    · have g_17 := cv_le (a := n) (b := k + j) (by omega) (by omega) h_17
      exact absurd hi_12 (by omega)
    · have g_17 := cv_nle (a := n) (b := k + j) (by omega) (by omega) h_17
      refine z_aload_n C rfl dX5_unqueue_20 ?_
      refine gf_X5_42 C dX5_unqueue_21 ?_
      refine z_iload_n C rfl dX5_unqueue_24 ?_
      refine z_aload_n C rfl dX5_unqueue_25 ?_
      refine gf_X5_42 C dX5_unqueue_26 ?_
      refine z_iload_n C rfl dX5_unqueue_29 ?_
      refine z_iconst (v := 1) C (by decide +kernel) dX5_unqueue_30 ?_
      refine z_iadd (v := nI (k + j + 1)) C (cv_add (k + j) 1) dX5_unqueue_31 ?_
      refine al_123 (v := iterK (mSh k) j (up μ 0 23 (nI n)) 10 (k + j + 1)) C (k + j + 1) rfl (by omega) rfl dX5_unqueue_32 ?_
      refine as_123 (x := iterK (mSh k) j (up μ 0 23 (nI n)) 10 (k + j + 1)) C (k + j) rfl (by omega) dX5_unqueue_33 ?_
      refine z_aload_n C rfl dX5_unqueue_34 ?_
      refine gf_X5_45 C dX5_unqueue_35 ?_
      refine z_iload_n C rfl dX5_unqueue_38 ?_
      refine z_aload_n C rfl dX5_unqueue_39 ?_
      refine gf_X5_45 C dX5_unqueue_40 ?_
      refine z_iload_n C rfl dX5_unqueue_43 ?_
      refine z_iconst (v := 1) C (by decide +kernel) dX5_unqueue_44 ?_
      refine z_iadd (v := nI (k + j + 1)) C (cv_add (k + j) 1) dX5_unqueue_45 ?_
      refine al_124 (v := iterK (mSh k) j (up μ 0 23 (nI n)) 11 (k + j + 1)) C (k + j + 1) rfl (by omega) (show _ = iterK (mSh k) j (up μ 0 23 (nI n)) 11 (k + j + 1) by simp [up]) dX5_unqueue_46 ?_
      refine as_124 (x := iterK (mSh k) j (up μ 0 23 (nI n)) 11 (k + j + 1)) C (k + j) rfl (by omega) dX5_unqueue_47 ?_
      refine z_aload_n C rfl dX5_unqueue_48 ?_
      refine gf_X5_48 C dX5_unqueue_49 ?_
      refine z_iload_n C rfl dX5_unqueue_52 ?_
      refine z_aload_n C rfl dX5_unqueue_53 ?_
      refine gf_X5_48 C dX5_unqueue_54 ?_
      refine z_iload_n C rfl dX5_unqueue_57 ?_
      refine z_iconst (v := 1) C (by decide +kernel) dX5_unqueue_58 ?_
      refine z_iadd (v := nI (k + j + 1)) C (cv_add (k + j) 1) dX5_unqueue_59 ?_
      refine al_125 (v := iterK (mSh k) j (up μ 0 23 (nI n)) 12 (k + j + 1)) C (k + j + 1) rfl (by omega) (show _ = iterK (mSh k) j (up μ 0 23 (nI n)) 12 (k + j + 1) by simp [up]) dX5_unqueue_60 ?_
      refine as_125 (x := iterK (mSh k) j (up μ 0 23 (nI n)) 12 (k + j + 1)) C (k + j) rfl (by omega) dX5_unqueue_61 ?_
      refine z_iinc (v := nI (k + j + 1)) (ls' := [some (.ref (n0 + 113)), some (.int (nI k)), some (.int (nI (k + j + 1)))]) C rfl (cv_inc (k + j) 1) (by decide) rfl dX5_unqueue_62 ?_
      refine z_goto (tgt := 12) C dX5_unqueue_65 (by decide) ?_
      exact z_cast (σ1 := (κ, iterK (mSh k) (j + 1) (up μ 0 23 (nI n)), o)) (ls' := [some (.ref (n0 + 113)), some (.int (nI k)), some (.int (nI (k + (j + 1))))]) (st' := []) (ih_12) rfl ⟨rfl, rfl, (so_int rfl), trivial⟩ rfl
set_option maxHeartbeats 4000000 in
set_option maxRecDepth 100000 in
theorem c_X5_waitsIn (l : Launch) (D : DD) (n0 : Nat) (κ μ : KH) (o : Int64) (n v a b : Nat) (hQ : μ 0 23 = nI n) (hn : n ≤ 8) (ha : a ≤ 40) (hb : b ≤ 40) : HM l D n0 yX5_waitsIn cX5_waitsIn 6 (some .boolean) 1 24 [.ref (n0 + 113), .int (nI v), .int (nI a), .int (nI b)] (κ, μ, o) (some (.int (b2i (mWIn μ n v a (b - a))))) (κ, μ, o) := by
  refine HM.of (by decide) (by simp [Value.category]) (by simp) (Or.inr (Or.inl ⟨_, .boolean, rfl, rfl, (b2i_nar _)⟩)) ?_
  intro pp ee ss mm aa bb me cd Q C K hret
  show ZZ pp l ee (rmk 1 24) ss mm aa bb me cd D n0 127 6 0 0 Q _ 0 [some (.ref (n0 + 113)), some (.int (nI v)), some (.int (nI a)), some (.int (nI b)), none, none] []
  refine z_iconst (v := 0) C (by decide +kernel) dX5_waitsIn_0 ?_
  refine z_istore (ls' := [some (.ref (n0 + 113)), some (.int (nI v)), some (.int (nI a)), some (.int (nI b)), some (.int 0), none]) C (by decide) rfl dX5_waitsIn_1 ?_
  refine z_iload_n C rfl dX5_waitsIn_3 ?_
  refine z_istore (ls' := [some (.ref (n0 + 113)), some (.int (nI v)), some (.int (nI a)), some (.int (nI b)), some (.int 0), some (.int (nI a))]) C (by decide) rfl dX5_waitsIn_4 ?_
  refine z_cast (σ1 := (κ, μ, o)) (ls' := [some (.ref (n0 + 113)), some (.int (nI v)), some (.int (nI a)), some (.int (nI b)), some (.int (b2i (anyTo (fun j => mWait μ n v (a + j)) 0))), some (.int (nI (a + 0)))]) (st' := []) (z_for (P := fun i => ZZ pp l ee (rmk 1 24) ss mm aa bb me cd D n0 127 6 0 0 Q (κ, μ, o) 6 [some (.ref (n0 + 113)), some (.int (nI v)), some (.int (nI a)), some (.int (nI b)), some (.int (b2i (anyTo (fun j => mWait μ n v (a + j)) i))), some (.int (nI (a + i)))] []) (b - a) ?_ ?_ 0 (Nat.zero_le _)) rfl ⟨rfl, rfl, rfl, rfl, (so_int rfl), (so_int rfl), trivial⟩ rfl
  · skip
    refine z_iload C rfl dX5_waitsIn_6 ?_
    refine z_iload_n C rfl dX5_waitsIn_8 ?_
    refine z_icmp_ge (tgt := 40) C dX5_waitsIn_9 (by decide) (fun h_9 => ?_) (fun h_9 => ?_)
    · have g_9 := cv_le (a := b) (b := a + (b - a)) (by omega) (by omega) h_9
      refine z_iload C rfl dX5_waitsIn_40 ?_
      exact z_endI (hret _ _ dX5_waitsIn_42) rfl rfl
    · have g_9 := cv_nle (a := b) (b := a + (b - a)) (by omega) (by omega) h_9
      exact absurd g_9 (by omega)
  · intro i hi_6 ih_6
    refine z_iload C rfl dX5_waitsIn_6 ?_
    refine z_iload_n C rfl dX5_waitsIn_8 ?_
    refine z_icmp_ge (tgt := 40) C dX5_waitsIn_9 (by decide) (fun h_9 => ?_) (fun h_9 => ?_)
    · have g_9 := cv_le (a := b) (b := a + i) (by omega) (by omega) h_9
      exact absurd hi_6 (by omega)
    · have g_9 := cv_nle (a := b) (b := a + i) (by omega) (by omega) h_9
      refine z_iload C rfl dX5_waitsIn_12 ?_
      refine z_if_ne (tgt := 27) C dX5_waitsIn_14 (by decide) (fun h_14 => ?_) (fun h_14 => ?_)
      · have g_14 := cv_b1 h_14
        refine z_iconst (v := 1) C (by decide +kernel) dX5_waitsIn_27 ?_
        refine z_goto (tgt := 32) C dX5_waitsIn_28 (by decide) ?_
        refine z_istore (ls' := [some (.ref (n0 + 113)), some (.int (nI v)), some (.int (nI a)), some (.int (nI b)), some (.int 1), some (.int (nI (a + i)))]) C (by decide) rfl dX5_waitsIn_32 ?_
        refine z_iinc (v := nI (a + i + 1)) (ls' := [some (.ref (n0 + 113)), some (.int (nI v)), some (.int (nI a)), some (.int (nI b)), some (.int 1), some (.int (nI (a + i + 1)))]) C rfl (cv_inc (a + i) 1) (by decide) rfl dX5_waitsIn_34 ?_
        refine z_goto (tgt := 6) C dX5_waitsIn_37 (by decide) ?_
        exact z_cast (σ1 := (κ, μ, o)) (ls' := [some (.ref (n0 + 113)), some (.int (nI v)), some (.int (nI a)), some (.int (nI b)), some (.int (b2i (anyTo (fun j => mWait μ n v (a + j)) (i + 1)))), some (.int (nI (a + (i + 1))))]) (st' := []) (ih_6) rfl ⟨rfl, rfl, rfl, rfl, (so_int (b2i_1 (by simp [anyTo, g_14]))), (so_int rfl), trivial⟩ rfl
      · have g_14 := cv_b0 h_14
        refine z_aload_n C rfl dX5_waitsIn_17 ?_
        refine z_iload_n C rfl dX5_waitsIn_18 ?_
        refine z_iload C rfl dX5_waitsIn_19 ?_
        refine z_callV (As := [.int (nI v), .int (nI (a + i))]) (r := (some (.int (b2i (mWait μ n v (a + i)))))) (σ1 := (κ, μ, o)) (st := []) (st1 := [.int (b2i (mWait μ n v (a + i)))]) C K ok_X5_129 (c_X5_waits l D n0 κ μ o n v (a + i) hQ hn) enc_M (by decide) rfl rfl ⟨by decide, by decide⟩ ⟨Nat.zero_le _, Nat.zero_le _⟩ (by simp [Value.category]) dX5_waitsIn_21 rfl rfl ?_
        refine z_if_eq (tgt := 31) C dX5_waitsIn_24 (by decide) (fun h_24 => ?_) (fun h_24 => ?_)
        · have g_24 := cv_b0 h_24
          refine z_iconst (v := 0) C (by decide +kernel) dX5_waitsIn_31 ?_
          refine z_istore (ls' := [some (.ref (n0 + 113)), some (.int (nI v)), some (.int (nI a)), some (.int (nI b)), some (.int 0), some (.int (nI (a + i)))]) C (by decide) rfl dX5_waitsIn_32 ?_
          refine z_iinc (v := nI (a + i + 1)) (ls' := [some (.ref (n0 + 113)), some (.int (nI v)), some (.int (nI a)), some (.int (nI b)), some (.int 0), some (.int (nI (a + i + 1)))]) C rfl (cv_inc (a + i) 1) (by decide) rfl dX5_waitsIn_34 ?_
          refine z_goto (tgt := 6) C dX5_waitsIn_37 (by decide) ?_
          exact z_cast (σ1 := (κ, μ, o)) (ls' := [some (.ref (n0 + 113)), some (.int (nI v)), some (.int (nI a)), some (.int (nI b)), some (.int (b2i (anyTo (fun j => mWait μ n v (a + j)) (i + 1)))), some (.int (nI (a + (i + 1))))]) (st' := []) (ih_6) rfl ⟨rfl, rfl, rfl, rfl, (so_int (b2i_0 (by simp [anyTo, g_14, g_24]))), (so_int rfl), trivial⟩ rfl
        · have g_24 := cv_b1 h_24
          refine z_iconst (v := 1) C (by decide +kernel) dX5_waitsIn_27 ?_
          refine z_goto (tgt := 32) C dX5_waitsIn_28 (by decide) ?_
          refine z_istore (ls' := [some (.ref (n0 + 113)), some (.int (nI v)), some (.int (nI a)), some (.int (nI b)), some (.int 1), some (.int (nI (a + i)))]) C (by decide) rfl dX5_waitsIn_32 ?_
          refine z_iinc (v := nI (a + i + 1)) (ls' := [some (.ref (n0 + 113)), some (.int (nI v)), some (.int (nI a)), some (.int (nI b)), some (.int 1), some (.int (nI (a + i + 1)))]) C rfl (cv_inc (a + i) 1) (by decide) rfl dX5_waitsIn_34 ?_
          refine z_goto (tgt := 6) C dX5_waitsIn_37 (by decide) ?_
          exact z_cast (σ1 := (κ, μ, o)) (ls' := [some (.ref (n0 + 113)), some (.int (nI v)), some (.int (nI a)), some (.int (nI b)), some (.int (b2i (anyTo (fun j => mWait μ n v (a + j)) (i + 1)))), some (.int (nI (a + (i + 1))))]) (st' := []) (ih_6) rfl ⟨rfl, rfl, rfl, rfl, (so_int (b2i_1 (by simp [anyTo, g_24]))), (so_int rfl), trivial⟩ rfl
set_option maxHeartbeats 4000000 in
set_option maxRecDepth 100000 in
theorem c_X5_unmap (l : Launch) (D : DD) (n0 : Nat) (κ μ : KH) (o : Int64) (v a b : Nat) (hv : v < 16) (ha : a ≤ 40) (hb : b ≤ 40) : HM l D n0 yX5_unmap cX5_unmap 6 (some .int) 1 22 [.ref (n0 + 113), .int (nI v), .int (nI a), .int (nI b)] (κ, μ, o) (some (.int (nI (mUmC μ v a b)))) (κ, mUnm μ v a b, o) := by
  refine HM.of (by decide) (by simp [Value.category]) (by simp) (Or.inr (Or.inl ⟨_, .int, rfl, rfl, rfl⟩)) ?_
  intro pp ee ss mm aa bb me cd Q C K hret
  show ZZ pp l ee (rmk 1 22) ss mm aa bb me cd D n0 127 6 0 0 Q _ 0 [some (.ref (n0 + 113)), some (.int (nI v)), some (.int (nI a)), some (.int (nI b)), none, none] []
  refine z_iconst (v := 0) C (by decide +kernel) dX5_unmap_0 ?_
  refine z_istore (ls' := [some (.ref (n0 + 113)), some (.int (nI v)), some (.int (nI a)), some (.int (nI b)), some (.int 0), none]) C (by decide) rfl dX5_unmap_1 ?_
  refine z_iload_n C rfl dX5_unmap_3 ?_
  refine z_istore (ls' := [some (.ref (n0 + 113)), some (.int (nI v)), some (.int (nI a)), some (.int (nI b)), some (.int 0), some (.int (nI a))]) C (by decide) rfl dX5_unmap_4 ?_
  refine z_cast (σ1 := (κ, iterK (mUm1 v a) 0 μ, o)) (ls' := [some (.ref (n0 + 113)), some (.int (nI v)), some (.int (nI a)), some (.int (nI b)), some (.int (nI (sumTo (fun j => mMp1 μ v (a + j)) 0))), some (.int (nI (a + 0)))]) (st' := []) (z_for (P := fun i => ZZ pp l ee (rmk 1 22) ss mm aa bb me cd D n0 127 6 0 0 Q (κ, iterK (mUm1 v a) i μ, o) 6 [some (.ref (n0 + 113)), some (.int (nI v)), some (.int (nI a)), some (.int (nI b)), some (.int (nI (sumTo (fun j => mMp1 μ v (a + j)) i))), some (.int (nI (a + i)))] []) (b - a) ?_ ?_ 0 (Nat.zero_le _)) rfl ⟨rfl, rfl, rfl, rfl, (so_int rfl), (so_int rfl), trivial⟩ rfl
  · skip
    refine z_iload C rfl dX5_unmap_6 ?_
    refine z_iload_n C rfl dX5_unmap_8 ?_
    refine z_icmp_ge (tgt := 57) C dX5_unmap_9 (by decide) (fun h_9 => ?_) (fun h_9 => ?_)
    · have g_9 := cv_le (a := b) (b := a + (b - a)) (by omega) (by omega) h_9
      refine z_iload C rfl dX5_unmap_57 ?_
      exact z_endI (hret _ _ dX5_unmap_59) rfl rfl
    · have g_9 := cv_nle (a := b) (b := a + (b - a)) (by omega) (by omega) h_9
      exact absurd g_9 (by omega)
  · intro i hi_6 ih_6
    refine z_iload C rfl dX5_unmap_6 ?_
    refine z_iload_n C rfl dX5_unmap_8 ?_
    refine z_icmp_ge (tgt := 57) C dX5_unmap_9 (by decide) (fun h_9 => ?_) (fun h_9 => ?_)
    · have g_9 := cv_le (a := b) (b := a + i) (by omega) (by omega) h_9
      exact absurd hi_6 (by omega)
    · have g_9 := cv_nle (a := b) (b := a + i) (by omega) (by omega) h_9
      refine z_iload C rfl dX5_unmap_12 ?_
      refine z_aload_n C rfl dX5_unmap_14 ?_
      refine gf_X5_26 C dX5_unmap_15 ?_
      refine z_iconst (v := 0) C (by decide +kernel) dX5_unmap_18 ?_
      refine z_iload_n C rfl dX5_unmap_19 ?_
      refine z_iload C rfl dX5_unmap_20 ?_
      refine z_callS (As := [.int 0, .int (nI v), .int (nI (a + i))]) (r := (some (.int (nI (40 * v + (a + i)))))) (σ1 := (κ, iterK (mUm1 v a) i μ, o)) (st := [.ref (n0 + 119), .int (nI (sumTo (fun j => mMp1 μ v (a + j)) i))]) (st1 := [.int (nI (40 * v + (a + i))), .ref (n0 + 119), .int (nI (sumTo (fun j => mMp1 μ v (a + j)) i))]) C K ok_X5_58 (c_X5_at0 l D n0 κ (iterK (mUm1 v a) i μ) o v (a + i)) rfl ⟨by decide, by decide⟩ ⟨Nat.zero_le _, Nat.zero_le _⟩ (by simp [Value.category]) dX5_unmap_22 rfl rfl ?_
      refine al_119 (v := μ 6 (40 * v + (a + i))) C (40 * v + (a + i)) rfl (by omega) (mUm_at v a μ i i (Nat.le_refl _)) dX5_unmap_25 ?_
      refine z_iconst (v := (-1)) C (by decide +kernel) dX5_unmap_26 ?_
      refine z_icmp_eq (tgt := 34) C dX5_unmap_27 (by decide) (fun h_27 => ?_) (fun h_27 => ?_)
      · skip
        refine z_iconst (v := 0) C (by decide +kernel) dX5_unmap_34 ?_
        refine z_iadd (v := nI (sumTo (fun j => mMp1 μ v (a + j)) i + 0)) C (cv_add (sumTo (fun j => mMp1 μ v (a + j)) i) 0) dX5_unmap_35 ?_
        refine z_istore (ls' := [some (.ref (n0 + 113)), some (.int (nI v)), some (.int (nI a)), some (.int (nI b)), some (.int (nI (sumTo (fun j => mMp1 μ v (a + j)) i + 0))), some (.int (nI (a + i)))]) C (by decide) rfl dX5_unmap_36 ?_
        refine z_aload_n C rfl dX5_unmap_38 ?_
        refine gf_X5_26 C dX5_unmap_39 ?_
        refine z_iconst (v := 0) C (by decide +kernel) dX5_unmap_42 ?_
        refine z_iload_n C rfl dX5_unmap_43 ?_
        refine z_iload C rfl dX5_unmap_44 ?_
        refine z_callS (As := [.int 0, .int (nI v), .int (nI (a + i))]) (r := (some (.int (nI (40 * v + (a + i)))))) (σ1 := (κ, iterK (mUm1 v a) i μ, o)) (st := [.ref (n0 + 119)]) (st1 := [.int (nI (40 * v + (a + i))), .ref (n0 + 119)]) C K ok_X5_58 (c_X5_at0 l D n0 κ (iterK (mUm1 v a) i μ) o v (a + i)) rfl ⟨by decide, by decide⟩ ⟨Nat.zero_le _, Nat.zero_le _⟩ (by simp [Value.category]) dX5_unmap_46 rfl rfl ?_
        refine z_iconst (v := (-1)) C (by decide +kernel) dX5_unmap_49 ?_
        refine as_119 (x := (-1)) C (40 * v + (a + i)) rfl (by omega) dX5_unmap_50 ?_
        refine z_iinc (v := nI (a + i + 1)) (ls' := [some (.ref (n0 + 113)), some (.int (nI v)), some (.int (nI a)), some (.int (nI b)), some (.int (nI (sumTo (fun j => mMp1 μ v (a + j)) i + 0))), some (.int (nI (a + i + 1)))]) C rfl (cv_inc (a + i) 1) (by decide) rfl dX5_unmap_51 ?_
        refine z_goto (tgt := 6) C dX5_unmap_54 (by decide) ?_
        exact z_cast (σ1 := (κ, iterK (mUm1 v a) (i + 1) μ, o)) (ls' := [some (.ref (n0 + 113)), some (.int (nI v)), some (.int (nI a)), some (.int (nI b)), some (.int (nI (sumTo (fun j => mMp1 μ v (a + j)) (i + 1)))), some (.int (nI (a + (i + 1))))]) (st' := []) (ih_6) rfl ⟨rfl, rfl, rfl, rfl, (so_int (by simp [sumTo, mMp1, h_27])), (so_int rfl), trivial⟩ rfl
      · skip
        refine z_iconst (v := 1) C (by decide +kernel) dX5_unmap_30 ?_
        refine z_goto (tgt := 35) C dX5_unmap_31 (by decide) ?_
        refine z_iadd (v := nI (sumTo (fun j => mMp1 μ v (a + j)) i + 1)) C (cv_add (sumTo (fun j => mMp1 μ v (a + j)) i) 1) dX5_unmap_35 ?_
        refine z_istore (ls' := [some (.ref (n0 + 113)), some (.int (nI v)), some (.int (nI a)), some (.int (nI b)), some (.int (nI (sumTo (fun j => mMp1 μ v (a + j)) i + 1))), some (.int (nI (a + i)))]) C (by decide) rfl dX5_unmap_36 ?_
        refine z_aload_n C rfl dX5_unmap_38 ?_
        refine gf_X5_26 C dX5_unmap_39 ?_
        refine z_iconst (v := 0) C (by decide +kernel) dX5_unmap_42 ?_
        refine z_iload_n C rfl dX5_unmap_43 ?_
        refine z_iload C rfl dX5_unmap_44 ?_
        refine z_callS (As := [.int 0, .int (nI v), .int (nI (a + i))]) (r := (some (.int (nI (40 * v + (a + i)))))) (σ1 := (κ, iterK (mUm1 v a) i μ, o)) (st := [.ref (n0 + 119)]) (st1 := [.int (nI (40 * v + (a + i))), .ref (n0 + 119)]) C K ok_X5_58 (c_X5_at0 l D n0 κ (iterK (mUm1 v a) i μ) o v (a + i)) rfl ⟨by decide, by decide⟩ ⟨Nat.zero_le _, Nat.zero_le _⟩ (by simp [Value.category]) dX5_unmap_46 rfl rfl ?_
        refine z_iconst (v := (-1)) C (by decide +kernel) dX5_unmap_49 ?_
        refine as_119 (x := (-1)) C (40 * v + (a + i)) rfl (by omega) dX5_unmap_50 ?_
        refine z_iinc (v := nI (a + i + 1)) (ls' := [some (.ref (n0 + 113)), some (.int (nI v)), some (.int (nI a)), some (.int (nI b)), some (.int (nI (sumTo (fun j => mMp1 μ v (a + j)) i + 1))), some (.int (nI (a + i + 1)))]) C rfl (cv_inc (a + i) 1) (by decide) rfl dX5_unmap_51 ?_
        refine z_goto (tgt := 6) C dX5_unmap_54 (by decide) ?_
        exact z_cast (σ1 := (κ, iterK (mUm1 v a) (i + 1) μ, o)) (ls' := [some (.ref (n0 + 113)), some (.int (nI v)), some (.int (nI a)), some (.int (nI b)), some (.int (nI (sumTo (fun j => mMp1 μ v (a + j)) (i + 1)))), some (.int (nI (a + (i + 1))))]) (st' := []) (ih_6) rfl ⟨rfl, rfl, rfl, rfl, (so_int (by simp [sumTo, mMp1, h_27])), (so_int rfl), trivial⟩ rfl
set_option maxHeartbeats 4000000 in
set_option maxRecDepth 100000 in
theorem c_X5_perform (l : Launch) (D : DD) (n0 : Nat) (κ μ : KH) (o : Int64) (v w : Nat) (x : Int32) (hv : v < 16) (hw : w < 160) (hJ : mJ μ) (hf : mNeed μ v (w / 4) = true → mFM μ (nE μ) ≠ 0) : HM l D n0 yX5_perform cX5_perform 7 (some .int) 5 114 [.ref (n0 + 113), .int (nI v), .int (nI w), .int x] (κ, μ, o) (some (.int (mPerR μ v w))) (κ, mPerf μ v w x, o) := by
  refine HM.of (by decide) (by simp [Value.category]) (by simp) (Or.inr (Or.inl ⟨_, .int, rfl, rfl, rfl⟩)) ?_
  intro pp ee ss mm aa bb me cd Q C K hret
  show ZZ pp l ee (rmk 5 114) ss mm aa bb me cd D n0 127 7 0 0 Q _ 0 [some (.ref (n0 + 113)), some (.int (nI v)), some (.int (nI w)), some (.int x), none, none, none] []
  have hpf : ∃ k : Nat, k < 96 ∧ mPf1 μ v (w / 4) 6 (40 * v + w / 4) = nI k := mPf1_at hJ hf
  obtain ⟨k, hk, hpk⟩ := hpf
  refine z_iload_n C rfl dX5_perform_0 ?_
  refine z_iconst (v := 4) C (by decide +kernel) dX5_perform_1 ?_
  refine z_idiv (v := nI (w / 4)) C (by decide +kernel) (cv_div (by omega) (by decide) (by decide)) dX5_perform_2 ?_
  refine z_istore (ls' := [some (.ref (n0 + 113)), some (.int (nI v)), some (.int (nI w)), some (.int x), some (.int (nI (w / 4))), none, none]) C (by decide) rfl dX5_perform_3 ?_
  refine z_aload_n C rfl dX5_perform_5 ?_
  refine gf_X5_26 C dX5_perform_6 ?_
  refine z_iconst (v := 0) C (by decide +kernel) dX5_perform_9 ?_
  refine z_iload_n C rfl dX5_perform_10 ?_
  refine z_iload C rfl dX5_perform_11 ?_
  refine z_callS (As := [.int 0, .int (nI v), .int (nI (w / 4))]) (r := (some (.int (nI (40 * v + (w / 4)))))) (σ1 := (κ, μ, o)) (st := [.ref (n0 + 119)]) (st1 := [.int (nI (40 * v + (w / 4))), .ref (n0 + 119)]) C K ok_X5_58 (c_X5_at0 l D n0 κ μ o v (w / 4)) rfl ⟨by decide, by decide⟩ ⟨Nat.zero_le _, Nat.zero_le _⟩ (by simp [Value.category]) dX5_perform_13 rfl rfl ?_
  refine al_119 (v := μ 6 (40 * v + (w / 4))) C (40 * v + (w / 4)) rfl (by omega) rfl dX5_perform_16 ?_
  refine z_istore (ls' := [some (.ref (n0 + 113)), some (.int (nI v)), some (.int (nI w)), some (.int x), some (.int (nI (w / 4))), some (.int (μ 6 (40 * v + (w / 4)))), none]) C (by decide) rfl dX5_perform_17 ?_
  refine z_aload_n C rfl dX5_perform_19 ?_
  refine z_iload_n C rfl dX5_perform_20 ?_
  refine z_iload C rfl dX5_perform_21 ?_
  refine z_callV (As := [.int (nI v), .int (nI (w / 4))]) (r := (some (.int (b2i (mNeed μ v (w / 4)))))) (σ1 := (κ, μ, o)) (st := []) (st1 := [.int (b2i (mNeed μ v (w / 4)))]) C K ok_X5_99 (c_X5_needs l D n0 κ μ o v (w / 4) hv (by omega)) enc_M (by decide) rfl rfl ⟨by decide, by decide⟩ ⟨Nat.zero_le _, Nat.zero_le _⟩ (by simp [Value.category]) dX5_perform_23 rfl rfl ?_
  refine z_istore (ls' := [some (.ref (n0 + 113)), some (.int (nI v)), some (.int (nI w)), some (.int x), some (.int (nI (w / 4))), some (.int (μ 6 (40 * v + (w / 4)))), some (.int (b2i (mNeed μ v (w / 4))))]) C (by decide) rfl dX5_perform_26 ?_
  refine z_iload C rfl dX5_perform_28 ?_
  refine z_if_eq (tgt := 40) C dX5_perform_30 (by decide) (fun h_30 => ?_) (fun h_30 => ?_)
  · have g_30 := cv_b0 h_30
    have hpm : mPf1 μ v (w / 4) = μ := if_neg (by rw [g_30]; decide)
    have hsg : ((κ, μ, o) : ST) = (κ, mPf1 μ v (w / 4), o) := by rw [hpm]
    rw [show (κ, μ, o) = ((κ, mPf1 μ v (w / 4), o) : ST) from hsg]
    refine z_aload_n C rfl dX5_perform_40 ?_
    refine gf_X5_36 C dX5_perform_41 ?_
    refine z_iconst (v := 4) C (by decide +kernel) dX5_perform_44 ?_
    refine z_aload_n C rfl dX5_perform_45 ?_
    refine gf_X5_26 C dX5_perform_46 ?_
    refine z_iconst (v := 0) C (by decide +kernel) dX5_perform_49 ?_
    refine z_iload_n C rfl dX5_perform_50 ?_
    refine z_iload C rfl dX5_perform_51 ?_
    refine z_callS (As := [.int 0, .int (nI v), .int (nI (w / 4))]) (r := (some (.int (nI (40 * v + (w / 4)))))) (σ1 := (κ, mPf1 μ v (w / 4), o)) (st := [.ref (n0 + 119), .int 4, .ref (n0 + 121)]) (st1 := [.int (nI (40 * v + (w / 4))), .ref (n0 + 119), .int 4, .ref (n0 + 121)]) C K ok_X5_58 (c_X5_at0 l D n0 κ (mPf1 μ v (w / 4)) o v (w / 4)) rfl ⟨by decide, by decide⟩ ⟨Nat.zero_le _, Nat.zero_le _⟩ (by simp [Value.category]) dX5_perform_53 rfl rfl ?_
    refine al_119 (v := nI k) C (40 * v + (w / 4)) rfl (by omega) hpk dX5_perform_56 ?_
    refine z_imul (v := nI (4 * k)) C (cv_mul 4 k) dX5_perform_57 ?_
    refine z_iload_n C rfl dX5_perform_58 ?_
    refine z_iconst (v := 4) C (by decide +kernel) dX5_perform_59 ?_
    refine z_irem (v := nI (w % 4)) C (by decide +kernel) (cv_rem (by omega) (by decide) (by decide)) dX5_perform_60 ?_
    refine z_iadd (v := nI (4 * k + (w % 4))) C (cv_add (4 * k) (w % 4)) dX5_perform_61 ?_
    refine z_iload_n C rfl dX5_perform_62 ?_
    refine as_121 (x := x) C (4 * k + (w % 4)) rfl (by omega) dX5_perform_63 ?_
    refine z_iload C rfl dX5_perform_64 ?_
    refine z_if_ne (tgt := 73) C dX5_perform_66 (by decide) (fun h_66 => ?_) (fun h_66 => ?_)
    · have g_66 := cv_b1 h_66
      refine z_iload C rfl dX5_perform_73 ?_
      refine z_iconst (v := (-1)) C (by decide +kernel) dX5_perform_75 ?_
      refine z_icmp_ne (tgt := 83) C dX5_perform_76 (by decide) (fun h_76 => ?_) (fun h_76 => ?_)
      · skip
        refine z_iconst (v := 2) C (by decide +kernel) dX5_perform_83 ?_
        exact z_endI (hret _ _ dX5_perform_84) (by simp [mPerR, g_66, h_76]) (by simp only [mPerf, hpk, tn_nI (show k < 2 ^ 31 by omega)])
      · skip
        refine z_iconst (v := 1) C (by decide +kernel) dX5_perform_79 ?_
        refine z_goto (tgt := 84) C dX5_perform_80 (by decide) ?_
        exact z_endI (hret _ _ dX5_perform_84) (by simp [mPerR, g_66, h_76]) (by simp only [mPerf, hpk, tn_nI (show k < 2 ^ 31 by omega)])
    · have g_66 := cv_b0 h_66
      refine z_iconst (v := 0) C (by decide +kernel) dX5_perform_69 ?_
      refine z_goto (tgt := 84) C dX5_perform_70 (by decide) ?_
      exact z_endI (hret _ _ dX5_perform_84) (by simp [mPerR, g_66]) (by simp only [mPerf, hpk, tn_nI (show k < 2 ^ 31 by omega)])
  · have g_30 := cv_b1 h_30
    refine z_aload_n C rfl dX5_perform_33 ?_
    refine z_iload_n C rfl dX5_perform_34 ?_
    refine z_iload C rfl dX5_perform_35 ?_
    refine z_callV (As := [.int (nI v), .int (nI (w / 4))]) (r := none) (σ1 := (κ, mTake μ v (w / 4), o)) (st := []) (st1 := []) C K ok_X5_103 (c_X5_take l D n0 κ μ o v (w / 4) hv (by omega) hJ (hf g_30)) enc_M (by decide) rfl rfl ⟨by decide, by decide⟩ ⟨Nat.zero_le _, Nat.zero_le _⟩ (by simp [Value.category]) dX5_perform_37 rfl rfl ?_
    have hpm : mPf1 μ v (w / 4) = mTake μ v (w / 4) := if_pos g_30
    rw [← hpm]
    refine z_aload_n C rfl dX5_perform_40 ?_
    refine gf_X5_36 C dX5_perform_41 ?_
    refine z_iconst (v := 4) C (by decide +kernel) dX5_perform_44 ?_
    refine z_aload_n C rfl dX5_perform_45 ?_
    refine gf_X5_26 C dX5_perform_46 ?_
    refine z_iconst (v := 0) C (by decide +kernel) dX5_perform_49 ?_
    refine z_iload_n C rfl dX5_perform_50 ?_
    refine z_iload C rfl dX5_perform_51 ?_
    refine z_callS (As := [.int 0, .int (nI v), .int (nI (w / 4))]) (r := (some (.int (nI (40 * v + (w / 4)))))) (σ1 := (κ, mPf1 μ v (w / 4), o)) (st := [.ref (n0 + 119), .int 4, .ref (n0 + 121)]) (st1 := [.int (nI (40 * v + (w / 4))), .ref (n0 + 119), .int 4, .ref (n0 + 121)]) C K ok_X5_58 (c_X5_at0 l D n0 κ (mPf1 μ v (w / 4)) o v (w / 4)) rfl ⟨by decide, by decide⟩ ⟨Nat.zero_le _, Nat.zero_le _⟩ (by simp [Value.category]) dX5_perform_53 rfl rfl ?_
    refine al_119 (v := nI k) C (40 * v + (w / 4)) rfl (by omega) hpk dX5_perform_56 ?_
    refine z_imul (v := nI (4 * k)) C (cv_mul 4 k) dX5_perform_57 ?_
    refine z_iload_n C rfl dX5_perform_58 ?_
    refine z_iconst (v := 4) C (by decide +kernel) dX5_perform_59 ?_
    refine z_irem (v := nI (w % 4)) C (by decide +kernel) (cv_rem (by omega) (by decide) (by decide)) dX5_perform_60 ?_
    refine z_iadd (v := nI (4 * k + (w % 4))) C (cv_add (4 * k) (w % 4)) dX5_perform_61 ?_
    refine z_iload_n C rfl dX5_perform_62 ?_
    refine as_121 (x := x) C (4 * k + (w % 4)) rfl (by omega) dX5_perform_63 ?_
    refine z_iload C rfl dX5_perform_64 ?_
    refine z_if_ne (tgt := 73) C dX5_perform_66 (by decide) (fun h_66 => ?_) (fun h_66 => ?_)
    · have g_66 := cv_b1 h_66
      refine z_iload C rfl dX5_perform_73 ?_
      refine z_iconst (v := (-1)) C (by decide +kernel) dX5_perform_75 ?_
      refine z_icmp_ne (tgt := 83) C dX5_perform_76 (by decide) (fun h_76 => ?_) (fun h_76 => ?_)
      · skip
        refine z_iconst (v := 2) C (by decide +kernel) dX5_perform_83 ?_
        exact z_endI (hret _ _ dX5_perform_84) (by simp [mPerR, g_66, h_76]) (by simp only [mPerf, hpk, tn_nI (show k < 2 ^ 31 by omega)])
      · skip
        refine z_iconst (v := 1) C (by decide +kernel) dX5_perform_79 ?_
        refine z_goto (tgt := 84) C dX5_perform_80 (by decide) ?_
        exact z_endI (hret _ _ dX5_perform_84) (by simp [mPerR, g_66, h_76]) (by simp only [mPerf, hpk, tn_nI (show k < 2 ^ 31 by omega)])
    · have g_66 := cv_b0 h_66
      refine z_iconst (v := 0) C (by decide +kernel) dX5_perform_69 ?_
      refine z_goto (tgt := 84) C dX5_perform_70 (by decide) ?_
      exact z_endI (hret _ _ dX5_perform_84) (by simp [mPerR, g_66]) (by simp only [mPerf, hpk, tn_nI (show k < 2 ^ 31 by omega)])
