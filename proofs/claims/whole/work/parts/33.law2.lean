theorem law_lt {L a : Nat} (hL : L ≤ 256) (ha : 4 * a ≤ L) (h : L < 4 * a + 4) : nI L - 4 < nI (4 * a) := by
  by_cases h4 : 4 ≤ L
  · rw [show nI L - 4 = nI (L - 4) from cv_sub (b := 4) h4]
    exact (nI_ltI (by omega) (by omega)).mpr (by omega)
  · obtain rfl : a = 0 := by omega
    rcases (show L = 0 ∨ L = 1 ∨ L = 2 ∨ L = 3 by omega) with rfl | rfl | rfl | rfl <;> decide +kernel
section LAW3
variable {p : Program} {l : Launch} {e : Env} {s : State} {m : MethodId} {args : Array Value} {below : List Frame} {meth : Method} {c : Code} {D : DD} {n0 N nL cells slots : Nat} {Q : State → Prop} {own : String} {cc : ByteArray} {σ σ1 : ST} {pc : Nat} {ls : List (Option Value)} {st : List Value}
set_option maxHeartbeats 4000000 in
/-- the law's loop -/
theorem law_loop (hfl : l.stackTraces = false) (C : Cx p l s m args meth c D n0 RL cL_law 7) (K : KX D n0 s s.heap) {b L : Nat} {xs : Nat → Int32} (hX : va_X b L xs s s.heap) (hbl : b < s.heap.size) (hbA : ¬ n0 ≤ b) (hL : L ≤ 256) {c0 s0 : Nat} (hc0 : c0 ≤ 1000) (hs0 : s0 ≤ 20000)
    (hend : ∀ (cs ss : Nat) (σ : ST) (i : Int32), cs ≤ 2000 → ss ≤ 30000 → ZZ p l e room_1 s m args below meth c D n0 127 7 cs ss Q σ 1721 (lawL b n0 i none none) []) :
    ∀ (f a : Nat), L ≤ 4 * (a + f) + 3 → 4 * a ≤ L → ∀ (κ μ : KH) (o : Int64), RO κ μ a → ZZ p l e room_1 s m args below meth c D n0 127 7 (c0 + a) (s0 + 6 * a) Q (κ, μ, o) 23 (lawL b n0 (nI (4 * a)) none none) [] := by
  have hroom : room_1.cells = 600128 ∧ room_1.slots = 7301098 := ⟨rfl, rfl⟩
  intro f
  induction f with
  | zero =>
    intro a h1 h2 κ μ o hR
    refine z_iload C rfl dL_law_23 ?_
    refine z_aload_n C rfl dL_law_25 ?_
    refine z_slen C hX hbl hbA dL_law_26 ?_
    refine z_iconst (v := 4) C (by decide +kernel) dL_law_27 ?_
    refine z_isub (v := nI L - 4) C rfl dL_law_28 ?_
    refine z_icmp_gt (tgt := 1721) C dL_law_29 (by decide) (fun _ => hend _ _ _ _ (by omega) (by omega)) (fun h => absurd (law_lt (by omega) (by omega) (by omega)) h)
  | succ f ih =>
    intro a h1 h2 κ μ o hR
    refine z_iload C rfl dL_law_23 ?_
    refine z_aload_n C rfl dL_law_25 ?_
    refine z_slen C hX hbl hbA dL_law_26 ?_
    refine z_iconst (v := 4) C (by decide +kernel) dL_law_27 ?_
    refine z_isub (v := nI L - 4) C rfl dL_law_28 ?_
    refine z_icmp_gt (tgt := 1721) C dL_law_29 (by decide) (fun _ => hend _ _ _ _ (by omega) (by omega)) (fun h => ?_)
    have ha : 4 * a + 4 ≤ L := Nat.not_lt.mp (fun q => h (law_lt (by omega) (by omega) (by omega)))
    have kk : ∀ (κ' μ' : KH) (o' : Int64), RO κ' μ' (a + 1) → ZZ p l e room_1 s m args below meth c D n0 127 7 (c0 + a + 1) (s0 + 6 * a + 6) Q (κ', μ', o') 1715 (lawL b n0 (nI (4 * a)) none none) [] := by
      intro κ' μ' o' hR'
      refine z_iinc (v := nI (4 * a + 4)) (ls' := lawL b n0 (nI (4 * a + 4)) none none) C rfl (cv_inc (4 * a) 4) (by decide) rfl dL_law_1715 ?_
      refine z_goto (tgt := 23) C dL_law_1718 (by decide) ?_
      have h := ih (a + 1) (by omega) (by omega) κ' μ' o' hR'
      rw [show 4 * (a + 1) = 4 * a + 4 by omega, show 6 * (a + 1) = 6 * a + 6 by omega] at h
      exact h
    have hc1 : c0 + a ≤ room_1.cells ∧ s0 + 6 * a ≤ room_1.slots := ⟨by omega, by omega⟩
    have hc2 : c0 + a + 1 ≤ room_1.cells ∧ s0 + 6 * a + 6 ≤ room_1.slots := ⟨by omega, by omega⟩
    refine z_aload_n C rfl dL_law_32 ?_
    refine z_iload C rfl dL_law_33 ?_
    refine z_sld C hX hbl hbA (4 * a) rfl (by omega) (by omega) dL_law_35 ?_
    refine z_bipush (v := 31) C (by decide +kernel) dL_law_36 ?_
    obtain ⟨j, hj, he⟩ := pk_andE (xs (4 * a)) (m := 31) 5 (by decide)
    refine z_iand (v := nI j) C he dL_law_38 ?_
    by_cases h26 : 26 ≤ j
    · exact z_tableOut (tgt := 1715) C dL_law_39 (Or.inr (by rw [nI_toInt (by omega)]; omega)) (by decide) (z_widen (by omega) (by omega) (kk κ μ o (hR.mono (Nat.le_succ a))))
    rcases (show j = 0 ∨ j = 1 ∨ j = 2 ∨ j = 3 ∨ j = 4 ∨ j = 5 ∨ j = 6 ∨ j = 7 ∨ j = 8 ∨ j = 9 ∨ j = 10 ∨ j = 11 ∨ j = 12 ∨ j = 13 ∨ j = 14 ∨ j = 15 ∨ j = 16 ∨ j = 17 ∨ j = 18 ∨ j = 19 ∨ j = 20 ∨ j = 21 ∨ j = 22 ∨ j = 23 ∨ j = 24 ∨ j = 25 by omega) with rfl | rfl | rfl | rfl | rfl | rfl | rfl | rfl | rfl | rfl | rfl | rfl | rfl | rfl | rfl | rfl | rfl | rfl | rfl | rfl | rfl | rfl | rfl | rfl | rfl | rfl
    · exact z_tableIn (off := 117) (tgt := 156) C dL_law_39 (by decide) (by decide) rfl (by decide) (law_make hfl C K hX hbl hbA hL ha hR hc1 hc2 kk)
    · exact z_tableIn (off := 213) (tgt := 252) C dL_law_39 (by decide) (by decide) rfl (by decide) (law_snap hfl C K hX hbl hbA hL ha hR hc1 hc2 kk)
    · exact z_tableIn (off := 281) (tgt := 320) C dL_law_39 (by decide) (by decide) rfl (by decide) (law_drop hfl C K hX hbl hbA hL ha hR hc1 hc2 kk)
    · exact z_tableIn (off := 337) (tgt := 376) C dL_law_39 (by decide) (by decide) rfl (by decide) (law_resize hfl C K hX hbl hbA hL ha hR hc1 hc2 kk)
    · exact z_tableIn (off := 405) (tgt := 444) C dL_law_39 (by decide) (by decide) rfl (by decide) (law_write hfl C K hX hbl hbA hL ha hR hc1 hc2 kk)
    · exact z_tableIn (off := 485) (tgt := 524) C dL_law_39 (by decide) (by decide) rfl (by decide) (law_read hfl C K hX hbl hbA hL ha hR hc1 hc2 kk)
    · exact z_tableIn (off := 553) (tgt := 592) C dL_law_39 (by decide) (by decide) rfl (by decide) (law_discard hfl C K hX hbl hbA hL ha hR hc1 hc2 kk)
    · exact z_tableIn (off := 633) (tgt := 672) C dL_law_39 (by decide) (by decide) rfl (by decide) (law_grow hfl C K hX hbl hbA hL ha hR hc1 hc2 kk)
    · exact z_tableIn (off := 689) (tgt := 728) C dL_law_39 (by decide) (by decide) rfl (by decide) (law_shrink hfl C K hX hbl hbA hL ha hR hc1 hc2 kk)
    · exact z_tableIn (off := 745) (tgt := 784) C dL_law_39 (by decide) (by decide) rfl (by decide) (law_back hfl C K hX hbl hbA hL ha hR hc1 hc2 kk)
    · exact z_tableIn (off := 813) (tgt := 852) C dL_law_39 (by decide) (by decide) rfl (by decide) (law_quota hfl C K hX hbl hbA hL ha hR hc1 hc2 kk)
    · exact z_tableIn (off := 881) (tgt := 920) C dL_law_39 (by decide) (by decide) rfl (by decide) (law_mark hfl C K hX hbl hbA hL ha hR hc1 hc2 kk)
    · exact z_tableIn (off := 918) (tgt := 957) C dL_law_39 (by decide) (by decide) rfl (by decide) (law_marked hfl C K hX hbl hbA hL ha hR hc1 hc2 kk)
    · exact z_tableIn (off := 974) (tgt := 1013) C dL_law_39 (by decide) (by decide) rfl (by decide) (law_commit hfl C K hX hbl hbA hL ha hR hc1 hc2 kk)
    · exact z_tableIn (off := 987) (tgt := 1026) C dL_law_39 (by decide) (by decide) rfl (by decide) (law_cut hfl C K hX hbl hbA hL ha hR hc1 hc2 kk)
    · exact z_tableIn (off := 1043) (tgt := 1082) C dL_law_39 (by decide) (by decide) rfl (by decide) (law_hold hfl C K hX hbl hbA hL ha hR hc1 hc2 kk)
    · exact z_tableIn (off := 1087) (tgt := 1126) C dL_law_39 (by decide) (by decide) rfl (by decide) (law_release hfl C K hX hbl hbA hL ha hR hc1 hc2 kk)
    · exact z_tableIn (off := 1100) (tgt := 1139) C dL_law_39 (by decide) (by decide) rfl (by decide) (law_patience hfl C K hX hbl hbA hL ha hR hc1 hc2 kk)
    · exact z_tableIn (off := 1156) (tgt := 1195) C dL_law_39 (by decide) (by decide) rfl (by decide) (law_alarm hfl C K hX hbl hbA hL ha hR hc1 hc2 kk)
    · exact z_tableIn (off := 1212) (tgt := 1251) C dL_law_39 (by decide) (by decide) rfl (by decide) (law_tick hfl C K hX hbl hbA hL ha hR hc1 hc2 kk)
    · exact z_tableIn (off := 1268) (tgt := 1307) C dL_law_39 (by decide) (by decide) rfl (by decide) (law_map hfl C K hX hbl hbA hL ha hR hc1 hc2 kk)
    · exact z_tableIn (off := 1348) (tgt := 1387) C dL_law_39 (by decide) (by decide) rfl (by decide) (law_volume hfl C K hX hbl hbA hL ha hR hc1 hc2 kk)
    · exact z_tableIn (off := 1416) (tgt := 1455) C dL_law_39 (by decide) (by decide) rfl (by decide) (law_differ hfl C K hX hbl hbA hL ha hR hc1 hc2 kk)
    · exact z_tableIn (off := 1496) (tgt := 1535) C dL_law_39 (by decide) (by decide) rfl (by decide) (law_users hfl C K hX hbl hbA hL ha hR hc1 hc2 kk)
    · exact z_tableIn (off := 1552) (tgt := 1591) C dL_law_39 (by decide) (by decide) rfl (by decide) (law_user hfl C K hX hbl hbA hL ha hR hc1 hc2 kk)
    · exact z_tableIn (off := 1620) (tgt := 1659) C dL_law_39 (by decide) (by decide) rfl (by decide) (law_told hfl C K hX hbl hbA hL ha hR hc1 hc2 kk)
end LAW3
