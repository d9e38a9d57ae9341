theorem wl_45 : Cond.initialized "ThinExtentsLaw" ∈ tb := tbm 45 (by decide +kernel) rfl
theorem wl_364 : Cond.methodLink "ThinExtentsLaw" 93 yL_make ∈ tb := tbm 364 (by decide +kernel) rfl
theorem wl_365 : Cond.static yL_make ∈ tb := tbm 365 (by decide +kernel) rfl
theorem wl_366 : Cond.codeWith yL_make method_3_code 6 (Option.some Jvm.ClassFile.FieldType.int) [(0, 12, 15, 13), (0, 12, 19, 15), (0, 12, 23, 17)] ∈ tb := tbm 366 (by decide +kernel) rfl
theorem wl_487 : Cond.methodLink "ThinExtentsLaw" 102 yL_snap ∈ tb := tbm 487 (by decide +kernel) rfl
theorem wl_488 : Cond.static yL_snap ∈ tb := tbm 488 (by decide +kernel) rfl
theorem wl_489 : Cond.codeWith yL_snap method_4_code 5 (Option.some Jvm.ClassFile.FieldType.int) [(0, 10, 13, 13), (0, 10, 17, 17)] ∈ tb := tbm 489 (by decide +kernel) rfl
theorem wl_499 : Cond.methodLink "ThinExtentsLaw" 106 yL_drop ∈ tb := tbm 499 (by decide +kernel) rfl
theorem wl_500 : Cond.static yL_drop ∈ tb := tbm 500 (by decide +kernel) rfl
theorem wl_501 : Cond.codeWith yL_drop method_5_code 4 (Option.some Jvm.ClassFile.FieldType.int) [(0, 9, 12, 13)] ∈ tb := tbm 501 (by decide +kernel) rfl
theorem wl_519 : Cond.methodLink "ThinExtentsLaw" 110 yL_resize ∈ tb := tbm 519 (by decide +kernel) rfl
theorem wl_520 : Cond.static yL_resize ∈ tb := tbm 520 (by decide +kernel) rfl
theorem wl_521 : Cond.codeWith yL_resize method_6_code 5 (Option.some Jvm.ClassFile.FieldType.int) [(0, 10, 13, 13), (0, 10, 17, 15), (0, 10, 21, 17)] ∈ tb := tbm 521 (by decide +kernel) rfl
theorem wl_535 : Cond.methodLink "ThinExtentsLaw" 113 yL_write ∈ tb := tbm 535 (by decide +kernel) rfl
theorem wl_536 : Cond.static yL_write ∈ tb := tbm 536 (by decide +kernel) rfl
theorem wl_537 : Cond.codeWith yL_write method_7_code 6 (Option.some Jvm.ClassFile.FieldType.int) [(0, 12, 15, 13)] ∈ tb := tbm 537 (by decide +kernel) rfl
theorem wl_559 : Cond.methodLink "ThinExtentsLaw" 117 yL_read ∈ tb := tbm 559 (by decide +kernel) rfl
theorem wl_560 : Cond.static yL_read ∈ tb := tbm 560 (by decide +kernel) rfl
theorem wl_561 : Cond.codeWith yL_read method_8_code 5 (Option.some Jvm.ClassFile.FieldType.int) [(0, 10, 13, 13)] ∈ tb := tbm 561 (by decide +kernel) rfl
theorem wl_566 : Cond.methodLink "ThinExtentsLaw" 120 yL_discard ∈ tb := tbm 566 (by decide +kernel) rfl
theorem wl_567 : Cond.static yL_discard ∈ tb := tbm 567 (by decide +kernel) rfl
theorem wl_568 : Cond.codeWith yL_discard method_9_code 6 (Option.some Jvm.ClassFile.FieldType.int) [(0, 12, 15, 13), (0, 12, 19, 17)] ∈ tb := tbm 568 (by decide +kernel) rfl
theorem wl_574 : Cond.methodLink "ThinExtentsLaw" 123 yL_grow ∈ tb := tbm 574 (by decide +kernel) rfl
theorem wl_575 : Cond.static yL_grow ∈ tb := tbm 575 (by decide +kernel) rfl
theorem wl_576 : Cond.codeWith yL_grow method_10_code 4 (Option.some Jvm.ClassFile.FieldType.int) [(0, 9, 12, 15)] ∈ tb := tbm 576 (by decide +kernel) rfl
theorem wl_586 : Cond.methodLink "ThinExtentsLaw" 126 yL_shrink ∈ tb := tbm 586 (by decide +kernel) rfl
theorem wl_587 : Cond.static yL_shrink ∈ tb := tbm 587 (by decide +kernel) rfl
theorem wl_588 : Cond.codeWith yL_shrink method_11_code 4 (Option.some Jvm.ClassFile.FieldType.int) [(0, 9, 12, 15)] ∈ tb := tbm 588 (by decide +kernel) rfl
theorem wl_597 : Cond.methodLink "ThinExtentsLaw" 129 yL_back ∈ tb := tbm 597 (by decide +kernel) rfl
theorem wl_598 : Cond.static yL_back ∈ tb := tbm 598 (by decide +kernel) rfl
theorem wl_599 : Cond.codeWith yL_back method_12_code 5 (Option.some Jvm.ClassFile.FieldType.int) [(0, 10, 13, 13), (0, 10, 17, 17)] ∈ tb := tbm 599 (by decide +kernel) rfl
theorem wl_610 : Cond.methodLink "ThinExtentsLaw" 132 yL_quota ∈ tb := tbm 610 (by decide +kernel) rfl
theorem wl_611 : Cond.static yL_quota ∈ tb := tbm 611 (by decide +kernel) rfl
theorem wl_612 : Cond.codeWith yL_quota method_13_code 5 (Option.some Jvm.ClassFile.FieldType.int) [(0, 10, 13, 13), (0, 10, 17, 15)] ∈ tb := tbm 612 (by decide +kernel) rfl
theorem wl_618 : Cond.methodLink "ThinExtentsLaw" 140 yL_marked ∈ tb := tbm 618 (by decide +kernel) rfl
theorem wl_619 : Cond.static yL_marked ∈ tb := tbm 619 (by decide +kernel) rfl
theorem wl_620 : Cond.codeWith yL_marked method_14_code 4 (Option.some Jvm.ClassFile.FieldType.int) [(0, 9, 12, 15)] ∈ tb := tbm 620 (by decide +kernel) rfl
theorem wl_630 : Cond.methodLink "ThinExtentsLaw" 147 yL_cut ∈ tb := tbm 630 (by decide +kernel) rfl
theorem wl_631 : Cond.static yL_cut ∈ tb := tbm 631 (by decide +kernel) rfl
theorem wl_632 : Cond.codeWith yL_cut method_15_code 4 (Option.some Jvm.ClassFile.FieldType.int) [(0, 9, 12, 15)] ∈ tb := tbm 632 (by decide +kernel) rfl
theorem wl_642 : Cond.methodLink "ThinExtentsLaw" 150 yL_hold ∈ tb := tbm 642 (by decide +kernel) rfl
theorem wl_643 : Cond.static yL_hold ∈ tb := tbm 643 (by decide +kernel) rfl
theorem wl_644 : Cond.codeWith yL_hold method_16_code 3 (Option.some Jvm.ClassFile.FieldType.int) [(0, 8, 11, 17)] ∈ tb := tbm 644 (by decide +kernel) rfl
theorem wl_650 : Cond.methodLink "ThinExtentsLaw" 159 yL_patience ∈ tb := tbm 650 (by decide +kernel) rfl
theorem wl_651 : Cond.static yL_patience ∈ tb := tbm 651 (by decide +kernel) rfl
theorem wl_652 : Cond.codeWith yL_patience method_17_code 4 (Option.some Jvm.ClassFile.FieldType.int) [(0, 9, 12, 15)] ∈ tb := tbm 652 (by decide +kernel) rfl
theorem wl_658 : Cond.methodLink "ThinExtentsLaw" 162 yL_alarm ∈ tb := tbm 658 (by decide +kernel) rfl
theorem wl_659 : Cond.static yL_alarm ∈ tb := tbm 659 (by decide +kernel) rfl
theorem wl_660 : Cond.codeWith yL_alarm method_18_code 4 (Option.some Jvm.ClassFile.FieldType.int) [(0, 9, 12, 15)] ∈ tb := tbm 660 (by decide +kernel) rfl
theorem wl_666 : Cond.methodLink "ThinExtentsLaw" 165 yL_tick ∈ tb := tbm 666 (by decide +kernel) rfl
theorem wl_667 : Cond.static yL_tick ∈ tb := tbm 667 (by decide +kernel) rfl
theorem wl_668 : Cond.codeWith yL_tick method_19_code 4 (Option.some Jvm.ClassFile.FieldType.int) [(0, 9, 12, 15)] ∈ tb := tbm 668 (by decide +kernel) rfl
theorem wl_674 : Cond.methodLink "ThinExtentsLaw" 168 yL_map ∈ tb := tbm 674 (by decide +kernel) rfl
theorem wl_675 : Cond.static yL_map ∈ tb := tbm 675 (by decide +kernel) rfl
theorem wl_676 : Cond.codeWith yL_map method_20_code 6 (Option.some Jvm.ClassFile.FieldType.int) [(0, 12, 15, 15), (0, 12, 19, 13)] ∈ tb := tbm 676 (by decide +kernel) rfl
theorem wl_682 : Cond.methodLink "ThinExtentsLaw" 171 yL_volume ∈ tb := tbm 682 (by decide +kernel) rfl
theorem wl_683 : Cond.static yL_volume ∈ tb := tbm 683 (by decide +kernel) rfl
theorem wl_684 : Cond.codeWith yL_volume method_21_code 5 (Option.some Jvm.ClassFile.FieldType.int) [(0, 10, 13, 13)] ∈ tb := tbm 684 (by decide +kernel) rfl
theorem wl_702 : Cond.methodLink "ThinExtentsLaw" 174 yL_differ ∈ tb := tbm 702 (by decide +kernel) rfl
theorem wl_703 : Cond.static yL_differ ∈ tb := tbm 703 (by decide +kernel) rfl
theorem wl_704 : Cond.codeWith yL_differ method_22_code 6 (Option.some Jvm.ClassFile.FieldType.int) [(0, 12, 15, 13)] ∈ tb := tbm 704 (by decide +kernel) rfl
theorem wl_721 : Cond.methodLink "ThinExtentsLaw" 177 yL_users ∈ tb := tbm 721 (by decide +kernel) rfl
theorem wl_722 : Cond.static yL_users ∈ tb := tbm 722 (by decide +kernel) rfl
theorem wl_723 : Cond.codeWith yL_users method_23_code 4 (Option.some Jvm.ClassFile.FieldType.int) [(0, 9, 12, 13)] ∈ tb := tbm 723 (by decide +kernel) rfl
theorem wl_734 : Cond.methodLink "ThinExtentsLaw" 180 yL_user ∈ tb := tbm 734 (by decide +kernel) rfl
theorem wl_735 : Cond.static yL_user ∈ tb := tbm 735 (by decide +kernel) rfl
theorem wl_736 : Cond.codeWith yL_user method_24_code 5 (Option.some Jvm.ClassFile.FieldType.int) [(0, 10, 13, 13)] ∈ tb := tbm 736 (by decide +kernel) rfl
theorem wl_745 : Cond.methodLink "ThinExtentsLaw" 183 yL_told ∈ tb := tbm 745 (by decide +kernel) rfl
theorem wl_746 : Cond.static yL_told ∈ tb := tbm 746 (by decide +kernel) rfl
theorem wl_747 : Cond.codeWith yL_told method_25_code 4 (Option.some Jvm.ClassFile.FieldType.int) [(0, 9, 12, 13)] ∈ tb := tbm 747 (by decide +kernel) rfl
section LAW2
variable {p : Program} {l : Launch} {e : Env} {s : State} {m : MethodId} {args : Array Value} {below : List Frame} {meth : Method} {c : Code} {D : DD} {n0 N nL cells slots : Nat} {Q : State → Prop} {own : String} {cc : ByteArray} {σ σ1 : ST} {pc : Nat} {ls : List (Option Value)} {st : List Value}
set_option maxHeartbeats 4000000 in
theorem law_make (hfl : l.stackTraces = false) (C : Cx p l s m args meth c D n0 RL cL_law 7) (K : KX D n0 s s.heap) {b L : Nat} {xs : Nat → Int32} (hX : va_X b L xs s s.heap) (hbl : b < s.heap.size) (hbA : ¬ n0 ≤ b) (hL : L ≤ 256) {a : Nat} (ha : 4 * a + 4 ≤ L) {κ μ : KH} {o : Int64} (hR : RO κ μ a) (hc0 : cells ≤ room_1.cells ∧ slots ≤ room_1.slots) (hc : cells + 1 ≤ room_1.cells ∧ slots + 6 ≤ room_1.slots)
    (kk : ∀ (κ' μ' : KH) (o' : Int64), RO κ' μ' (a + 1) → ZZ p l e room_1 s m args below meth c D n0 127 7 (cells + 1) (slots + 6) Q (κ', μ', o') 1715 (lawL b n0 (nI (4 * a)) none none) []) : ZZ p l e room_1 s m args below meth c D n0 127 7 cells slots Q (κ, μ, o) 156 (lawL b n0 (nI (4 * a)) none none) [] := by
  obtain ⟨n, q, h⟩ := hR
  by_cases hz : xs (4 * a + 3) = 0
  · obtain ⟨k, r, κ', μ', o', f, w, hf, hw, hW, hM, h0, ho, hRO⟩ := s_make hfl D n0 h (by omega) o (xs (4 * a + 1)) (xs (4 * a + 2)) (0) (Or.inl rfl)
    refine z_aload_n C rfl dL_law_156 ?_
    refine z_aload_n C rfl dL_law_157 ?_
    refine z_iload C rfl dL_law_158 ?_
    refine z_iconst (v := 1) C (by decide +kernel) dL_law_160 ?_
    refine z_iadd (v := nI (4 * a + 1)) C (cv_add (4 * a) 1) dL_law_161 ?_
    refine z_sld C hX hbl hbA (4 * a + 1) rfl (by omega) (by omega) dL_law_162 ?_
    refine z_aload_n C rfl dL_law_163 ?_
    refine z_iload C rfl dL_law_164 ?_
    refine z_iconst (v := 2) C (by decide +kernel) dL_law_166 ?_
    refine z_iadd (v := nI (4 * a + 2)) C (cv_add (4 * a) 2) dL_law_167 ?_
    refine z_sld C hX hbl hbA (4 * a + 2) rfl (by omega) (by omega) dL_law_168 ?_
    refine z_aload_n C rfl dL_law_169 ?_
    refine z_iload C rfl dL_law_170 ?_
    refine z_iconst (v := 3) C (by decide +kernel) dL_law_172 ?_
    refine z_iadd (v := nI (4 * a + 3)) C (cv_add (4 * a) 3) dL_law_173 ?_
    refine z_sld C hX hbl hbA (4 * a + 3) rfl (by omega) (by omega) dL_law_174 ?_
    refine z_if_eq (tgt := 182) C dL_law_175 (by decide) (fun _ => ?_) (fun q => absurd hz q)
    refine z_iconst (v := 0) C (by decide +kernel) dL_law_182 ?_
    refine z_aload_n C rfl dL_law_183 ?_
    refine z_callHW (st := []) (n := 5) C K hW wl_364 wl_365 wl_45 wl_366 (by decide +kernel) rfl ⟨Nat.le_of_ble_eq_true rfl, Nat.le_of_ble_eq_true rfl⟩ hc (by simp) dL_law_184 rfl ?_
    refine z_istore (ls' := lawL b n0 (nI (4 * a)) (some (.int k)) none) C (by decide) rfl dL_law_187 ?_
    refine z_aload_n C rfl dL_law_189 ?_
    refine z_aload_n C rfl dL_law_190 ?_
    refine z_iload C rfl dL_law_191 ?_
    refine z_iconst (v := 1) C (by decide +kernel) dL_law_193 ?_
    refine z_iadd (v := nI (4 * a + 1)) C (cv_add (4 * a) 1) dL_law_194 ?_
    refine z_sld C hX hbl hbA (4 * a + 1) rfl (by omega) (by omega) dL_law_195 ?_
    refine z_aload_n C rfl dL_law_196 ?_
    refine z_iload C rfl dL_law_197 ?_
    refine z_iconst (v := 2) C (by decide +kernel) dL_law_199 ?_
    refine z_iadd (v := nI (4 * a + 2)) C (cv_add (4 * a) 2) dL_law_200 ?_
    refine z_sld C hX hbl hbA (4 * a + 2) rfl (by omega) (by omega) dL_law_201 ?_
    refine z_aload_n C rfl dL_law_202 ?_
    refine z_iload C rfl dL_law_203 ?_
    refine z_iconst (v := 3) C (by decide +kernel) dL_law_205 ?_
    refine z_iadd (v := nI (4 * a + 3)) C (cv_add (4 * a) 3) dL_law_206 ?_
    refine z_sld C hX hbl hbA (4 * a + 3) rfl (by omega) (by omega) dL_law_207 ?_
    refine z_if_eq (tgt := 215) C dL_law_208 (by decide) (fun _ => ?_) (fun q => absurd hz q)
    refine z_iconst (v := 0) C (by decide +kernel) dL_law_215 ?_
    refine z_callV (st := []) C K ok_L_98 hM enc_M (by decide) rfl rfl ⟨by show f + 1 ≤ 11; omega, by show 8 + (5 + 11) + w ≤ 396; omega⟩ hc (by simp) dL_law_216 rfl rfl ?_
    refine z_istore (ls' := lawL b n0 (nI (4 * a)) (some (.int k)) (some (.int r))) C (by decide) rfl dL_law_219 ?_
    exact law_tail C K h0 ho hc dL_law_221 dL_law_222 dL_law_225 dL_law_227 dL_law_232 dL_law_234 dL_law_237 dL_law_238 dL_law_239 dL_law_240 dL_law_242 dL_law_243 dL_law_244 dL_law_249 (by decide) (kk κ' μ' o' hRO)
  · obtain ⟨k, r, κ', μ', o', f, w, hf, hw, hW, hM, h0, ho, hRO⟩ := s_make hfl D n0 h (by omega) o (xs (4 * a + 1)) (xs (4 * a + 2)) (1) (Or.inr rfl)
    refine z_aload_n C rfl dL_law_156 ?_
    refine z_aload_n C rfl dL_law_157 ?_
    refine z_iload C rfl dL_law_158 ?_
    refine z_iconst (v := 1) C (by decide +kernel) dL_law_160 ?_
    refine z_iadd (v := nI (4 * a + 1)) C (cv_add (4 * a) 1) dL_law_161 ?_
    refine z_sld C hX hbl hbA (4 * a + 1) rfl (by omega) (by omega) dL_law_162 ?_
    refine z_aload_n C rfl dL_law_163 ?_
    refine z_iload C rfl dL_law_164 ?_
    refine z_iconst (v := 2) C (by decide +kernel) dL_law_166 ?_
    refine z_iadd (v := nI (4 * a + 2)) C (cv_add (4 * a) 2) dL_law_167 ?_
    refine z_sld C hX hbl hbA (4 * a + 2) rfl (by omega) (by omega) dL_law_168 ?_
    refine z_aload_n C rfl dL_law_169 ?_
    refine z_iload C rfl dL_law_170 ?_
    refine z_iconst (v := 3) C (by decide +kernel) dL_law_172 ?_
    refine z_iadd (v := nI (4 * a + 3)) C (cv_add (4 * a) 3) dL_law_173 ?_
    refine z_sld C hX hbl hbA (4 * a + 3) rfl (by omega) (by omega) dL_law_174 ?_
    refine z_if_eq (tgt := 182) C dL_law_175 (by decide) (fun q => absurd q hz) (fun _ => ?_)
    refine z_iconst (v := 1) C (by decide +kernel) dL_law_178 ?_
    refine z_goto (tgt := 183) C dL_law_179 (by decide) ?_
    refine z_aload_n C rfl dL_law_183 ?_
    refine z_callHW (st := []) (n := 5) C K hW wl_364 wl_365 wl_45 wl_366 (by decide +kernel) rfl ⟨Nat.le_of_ble_eq_true rfl, Nat.le_of_ble_eq_true rfl⟩ hc (by simp) dL_law_184 rfl ?_
    refine z_istore (ls' := lawL b n0 (nI (4 * a)) (some (.int k)) none) C (by decide) rfl dL_law_187 ?_
    refine z_aload_n C rfl dL_law_189 ?_
    refine z_aload_n C rfl dL_law_190 ?_
    refine z_iload C rfl dL_law_191 ?_
    refine z_iconst (v := 1) C (by decide +kernel) dL_law_193 ?_
    refine z_iadd (v := nI (4 * a + 1)) C (cv_add (4 * a) 1) dL_law_194 ?_
    refine z_sld C hX hbl hbA (4 * a + 1) rfl (by omega) (by omega) dL_law_195 ?_
    refine z_aload_n C rfl dL_law_196 ?_
    refine z_iload C rfl dL_law_197 ?_
    refine z_iconst (v := 2) C (by decide +kernel) dL_law_199 ?_
    refine z_iadd (v := nI (4 * a + 2)) C (cv_add (4 * a) 2) dL_law_200 ?_
    refine z_sld C hX hbl hbA (4 * a + 2) rfl (by omega) (by omega) dL_law_201 ?_
    refine z_aload_n C rfl dL_law_202 ?_
    refine z_iload C rfl dL_law_203 ?_
    refine z_iconst (v := 3) C (by decide +kernel) dL_law_205 ?_
    refine z_iadd (v := nI (4 * a + 3)) C (cv_add (4 * a) 3) dL_law_206 ?_
    refine z_sld C hX hbl hbA (4 * a + 3) rfl (by omega) (by omega) dL_law_207 ?_
    refine z_if_eq (tgt := 215) C dL_law_208 (by decide) (fun q => absurd q hz) (fun _ => ?_)
    refine z_iconst (v := 1) C (by decide +kernel) dL_law_211 ?_
    refine z_goto (tgt := 216) C dL_law_212 (by decide) ?_
    refine z_callV (st := []) C K ok_L_98 hM enc_M (by decide) rfl rfl ⟨by show f + 1 ≤ 11; omega, by show 8 + (5 + 11) + w ≤ 396; omega⟩ hc (by simp) dL_law_216 rfl rfl ?_
    refine z_istore (ls' := lawL b n0 (nI (4 * a)) (some (.int k)) (some (.int r))) C (by decide) rfl dL_law_219 ?_
    exact law_tail C K h0 ho hc dL_law_221 dL_law_222 dL_law_225 dL_law_227 dL_law_232 dL_law_234 dL_law_237 dL_law_238 dL_law_239 dL_law_240 dL_law_242 dL_law_243 dL_law_244 dL_law_249 (by decide) (kk κ' μ' o' hRO)
set_option maxHeartbeats 4000000 in
theorem law_snap (hfl : l.stackTraces = false) (C : Cx p l s m args meth c D n0 RL cL_law 7) (K : KX D n0 s s.heap) {b L : Nat} {xs : Nat → Int32} (hX : va_X b L xs s s.heap) (hbl : b < s.heap.size) (hbA : ¬ n0 ≤ b) (hL : L ≤ 256) {a : Nat} (ha : 4 * a + 4 ≤ L) {κ μ : KH} {o : Int64} (hR : RO κ μ a) (hc0 : cells ≤ room_1.cells ∧ slots ≤ room_1.slots) (hc : cells + 1 ≤ room_1.cells ∧ slots + 6 ≤ room_1.slots)
    (kk : ∀ (κ' μ' : KH) (o' : Int64), RO κ' μ' (a + 1) → ZZ p l e room_1 s m args below meth c D n0 127 7 (cells + 1) (slots + 6) Q (κ', μ', o') 1715 (lawL b n0 (nI (4 * a)) none none) []) : ZZ p l e room_1 s m args below meth c D n0 127 7 cells slots Q (κ, μ, o) 252 (lawL b n0 (nI (4 * a)) none none) [] := by
  obtain ⟨n, q, h⟩ := hR
  obtain ⟨k, r, κ', μ', o', f, w, hf, hw, hW, hM, h0, ho, hRO⟩ := s_snap hfl D n0 h (by omega) o (xs (4 * a + 1)) (xs (4 * a + 2))
  refine z_aload_n C rfl dL_law_252 ?_
  refine z_aload_n C rfl dL_law_253 ?_
  refine z_iload C rfl dL_law_254 ?_
  refine z_iconst (v := 1) C (by decide +kernel) dL_law_256 ?_
  refine z_iadd (v := nI (4 * a + 1)) C (cv_add (4 * a) 1) dL_law_257 ?_
  refine z_sld C hX hbl hbA (4 * a + 1) rfl (by omega) (by omega) dL_law_258 ?_
  refine z_aload_n C rfl dL_law_259 ?_
  refine z_iload C rfl dL_law_260 ?_
  refine z_iconst (v := 2) C (by decide +kernel) dL_law_262 ?_
  refine z_iadd (v := nI (4 * a + 2)) C (cv_add (4 * a) 2) dL_law_263 ?_
  refine z_sld C hX hbl hbA (4 * a + 2) rfl (by omega) (by omega) dL_law_264 ?_
  refine z_aload_n C rfl dL_law_265 ?_
  refine z_callHW (st := []) (n := 4) C K hW wl_487 wl_488 wl_45 wl_489 (by decide +kernel) rfl ⟨Nat.le_of_ble_eq_true rfl, Nat.le_of_ble_eq_true rfl⟩ hc (by simp) dL_law_266 rfl ?_
  refine z_istore (ls' := lawL b n0 (nI (4 * a)) (some (.int k)) none) C (by decide) rfl dL_law_269 ?_
  refine z_aload_n C rfl dL_law_271 ?_
  refine z_aload_n C rfl dL_law_272 ?_
  refine z_iload C rfl dL_law_273 ?_
  refine z_iconst (v := 1) C (by decide +kernel) dL_law_275 ?_
  refine z_iadd (v := nI (4 * a + 1)) C (cv_add (4 * a) 1) dL_law_276 ?_
  refine z_sld C hX hbl hbA (4 * a + 1) rfl (by omega) (by omega) dL_law_277 ?_
  refine z_aload_n C rfl dL_law_278 ?_
  refine z_iload C rfl dL_law_279 ?_
  refine z_iconst (v := 2) C (by decide +kernel) dL_law_281 ?_
  refine z_iadd (v := nI (4 * a + 2)) C (cv_add (4 * a) 2) dL_law_282 ?_
  refine z_sld C hX hbl hbA (4 * a + 2) rfl (by omega) (by omega) dL_law_283 ?_
  refine z_callV (st := []) C K ok_L_105 hM enc_M (by decide) rfl rfl ⟨by show f + 1 ≤ 11; omega, by show 8 + (3 + 11) + w ≤ 396; omega⟩ hc (by simp) dL_law_284 rfl rfl ?_
  refine z_istore (ls' := lawL b n0 (nI (4 * a)) (some (.int k)) (some (.int r))) C (by decide) rfl dL_law_287 ?_
  exact law_tail C K h0 ho hc dL_law_289 dL_law_290 dL_law_293 dL_law_295 dL_law_300 dL_law_302 dL_law_305 dL_law_306 dL_law_307 dL_law_308 dL_law_310 dL_law_311 dL_law_312 dL_law_317 (by decide) (kk κ' μ' o' hRO)
set_option maxHeartbeats 4000000 in
theorem law_drop (hfl : l.stackTraces = false) (C : Cx p l s m args meth c D n0 RL cL_law 7) (K : KX D n0 s s.heap) {b L : Nat} {xs : Nat → Int32} (hX : va_X b L xs s s.heap) (hbl : b < s.heap.size) (hbA : ¬ n0 ≤ b) (hL : L ≤ 256) {a : Nat} (ha : 4 * a + 4 ≤ L) {κ μ : KH} {o : Int64} (hR : RO κ μ a) (hc0 : cells ≤ room_1.cells ∧ slots ≤ room_1.slots) (hc : cells + 1 ≤ room_1.cells ∧ slots + 6 ≤ room_1.slots)
    (kk : ∀ (κ' μ' : KH) (o' : Int64), RO κ' μ' (a + 1) → ZZ p l e room_1 s m args below meth c D n0 127 7 (cells + 1) (slots + 6) Q (κ', μ', o') 1715 (lawL b n0 (nI (4 * a)) none none) []) : ZZ p l e room_1 s m args below meth c D n0 127 7 cells slots Q (κ, μ, o) 320 (lawL b n0 (nI (4 * a)) none none) [] := by
  obtain ⟨n, q, h⟩ := hR
  obtain ⟨k, r, κ', μ', o', f, w, hf, hw, hW, hM, h0, ho, hRO⟩ := s_drop hfl D n0 h (by omega) o (xs (4 * a + 1))
  refine z_aload_n C rfl dL_law_320 ?_
  refine z_aload_n C rfl dL_law_321 ?_
  refine z_iload C rfl dL_law_322 ?_
  refine z_iconst (v := 1) C (by decide +kernel) dL_law_324 ?_
  refine z_iadd (v := nI (4 * a + 1)) C (cv_add (4 * a) 1) dL_law_325 ?_
  refine z_sld C hX hbl hbA (4 * a + 1) rfl (by omega) (by omega) dL_law_326 ?_
  refine z_aload_n C rfl dL_law_327 ?_
  refine z_callHW (st := []) (n := 3) C K hW wl_499 wl_500 wl_45 wl_501 (by decide +kernel) rfl ⟨Nat.le_of_ble_eq_true rfl, Nat.le_of_ble_eq_true rfl⟩ hc (by simp) dL_law_328 rfl ?_
  refine z_istore (ls' := lawL b n0 (nI (4 * a)) (some (.int k)) none) C (by decide) rfl dL_law_331 ?_
  refine z_aload_n C rfl dL_law_333 ?_
  refine z_aload_n C rfl dL_law_334 ?_
  refine z_iload C rfl dL_law_335 ?_
  refine z_iconst (v := 1) C (by decide +kernel) dL_law_337 ?_
  refine z_iadd (v := nI (4 * a + 1)) C (cv_add (4 * a) 1) dL_law_338 ?_
  refine z_sld C hX hbl hbA (4 * a + 1) rfl (by omega) (by omega) dL_law_339 ?_
  refine z_callV (st := []) C K ok_L_109 hM enc_M (by decide) rfl rfl ⟨by show f + 1 ≤ 11; omega, by show 8 + (4 + 11) + w ≤ 396; omega⟩ hc (by simp) dL_law_340 rfl rfl ?_
  refine z_istore (ls' := lawL b n0 (nI (4 * a)) (some (.int k)) (some (.int r))) C (by decide) rfl dL_law_343 ?_
  exact law_tail C K h0 ho hc dL_law_345 dL_law_346 dL_law_349 dL_law_351 dL_law_356 dL_law_358 dL_law_361 dL_law_362 dL_law_363 dL_law_364 dL_law_366 dL_law_367 dL_law_368 dL_law_373 (by decide) (kk κ' μ' o' hRO)
set_option maxHeartbeats 4000000 in
theorem law_resize (hfl : l.stackTraces = false) (C : Cx p l s m args meth c D n0 RL cL_law 7) (K : KX D n0 s s.heap) {b L : Nat} {xs : Nat → Int32} (hX : va_X b L xs s s.heap) (hbl : b < s.heap.size) (hbA : ¬ n0 ≤ b) (hL : L ≤ 256) {a : Nat} (ha : 4 * a + 4 ≤ L) {κ μ : KH} {o : Int64} (hR : RO κ μ a) (hc0 : cells ≤ room_1.cells ∧ slots ≤ room_1.slots) (hc : cells + 1 ≤ room_1.cells ∧ slots + 6 ≤ room_1.slots)
    (kk : ∀ (κ' μ' : KH) (o' : Int64), RO κ' μ' (a + 1) → ZZ p l e room_1 s m args below meth c D n0 127 7 (cells + 1) (slots + 6) Q (κ', μ', o') 1715 (lawL b n0 (nI (4 * a)) none none) []) : ZZ p l e room_1 s m args below meth c D n0 127 7 cells slots Q (κ, μ, o) 376 (lawL b n0 (nI (4 * a)) none none) [] := by
  obtain ⟨n, q, h⟩ := hR
  obtain ⟨k, r, κ', μ', o', f, w, hf, hw, hW, hM, h0, ho, hRO⟩ := s_resize hfl D n0 h (by omega) o (xs (4 * a + 1)) (xs (4 * a + 2))
  refine z_aload_n C rfl dL_law_376 ?_
  refine z_aload_n C rfl dL_law_377 ?_
  refine z_iload C rfl dL_law_378 ?_
  refine z_iconst (v := 1) C (by decide +kernel) dL_law_380 ?_
  refine z_iadd (v := nI (4 * a + 1)) C (cv_add (4 * a) 1) dL_law_381 ?_
  refine z_sld C hX hbl hbA (4 * a + 1) rfl (by omega) (by omega) dL_law_382 ?_
  refine z_aload_n C rfl dL_law_383 ?_
  refine z_iload C rfl dL_law_384 ?_
  refine z_iconst (v := 2) C (by decide +kernel) dL_law_386 ?_
  refine z_iadd (v := nI (4 * a + 2)) C (cv_add (4 * a) 2) dL_law_387 ?_
  refine z_sld C hX hbl hbA (4 * a + 2) rfl (by omega) (by omega) dL_law_388 ?_
  refine z_aload_n C rfl dL_law_389 ?_
  refine z_callHW (st := []) (n := 4) C K hW wl_519 wl_520 wl_45 wl_521 (by decide +kernel) rfl ⟨Nat.le_of_ble_eq_true rfl, Nat.le_of_ble_eq_true rfl⟩ hc (by simp) dL_law_390 rfl ?_
  refine z_istore (ls' := lawL b n0 (nI (4 * a)) (some (.int k)) none) C (by decide) rfl dL_law_393 ?_
  refine z_aload_n C rfl dL_law_395 ?_
  refine z_aload_n C rfl dL_law_396 ?_
  refine z_iload C rfl dL_law_397 ?_
  refine z_iconst (v := 1) C (by decide +kernel) dL_law_399 ?_
  refine z_iadd (v := nI (4 * a + 1)) C (cv_add (4 * a) 1) dL_law_400 ?_
  refine z_sld C hX hbl hbA (4 * a + 1) rfl (by omega) (by omega) dL_law_401 ?_
  refine z_aload_n C rfl dL_law_402 ?_
  refine z_iload C rfl dL_law_403 ?_
  refine z_iconst (v := 2) C (by decide +kernel) dL_law_405 ?_
  refine z_iadd (v := nI (4 * a + 2)) C (cv_add (4 * a) 2) dL_law_406 ?_
  refine z_sld C hX hbl hbA (4 * a + 2) rfl (by omega) (by omega) dL_law_407 ?_
  refine z_callV (st := []) C K ok_L_112 hM enc_M (by decide) rfl rfl ⟨by show f + 1 ≤ 11; omega, by show 8 + (4 + 11) + w ≤ 396; omega⟩ hc (by simp) dL_law_408 rfl rfl ?_
  refine z_istore (ls' := lawL b n0 (nI (4 * a)) (some (.int k)) (some (.int r))) C (by decide) rfl dL_law_411 ?_
  exact law_tail C K h0 ho hc dL_law_413 dL_law_414 dL_law_417 dL_law_419 dL_law_424 dL_law_426 dL_law_429 dL_law_430 dL_law_431 dL_law_432 dL_law_434 dL_law_435 dL_law_436 dL_law_441 (by decide) (kk κ' μ' o' hRO)
set_option maxHeartbeats 4000000 in
theorem law_write (hfl : l.stackTraces = false) (C : Cx p l s m args meth c D n0 RL cL_law 7) (K : KX D n0 s s.heap) {b L : Nat} {xs : Nat → Int32} (hX : va_X b L xs s s.heap) (hbl : b < s.heap.size) (hbA : ¬ n0 ≤ b) (hL : L ≤ 256) {a : Nat} (ha : 4 * a + 4 ≤ L) {κ μ : KH} {o : Int64} (hR : RO κ μ a) (hc0 : cells ≤ room_1.cells ∧ slots ≤ room_1.slots) (hc : cells + 1 ≤ room_1.cells ∧ slots + 6 ≤ room_1.slots)
    (kk : ∀ (κ' μ' : KH) (o' : Int64), RO κ' μ' (a + 1) → ZZ p l e room_1 s m args below meth c D n0 127 7 (cells + 1) (slots + 6) Q (κ', μ', o') 1715 (lawL b n0 (nI (4 * a)) none none) []) : ZZ p l e room_1 s m args below meth c D n0 127 7 cells slots Q (κ, μ, o) 444 (lawL b n0 (nI (4 * a)) none none) [] := by
  obtain ⟨n, q, h⟩ := hR
  obtain ⟨k, r, κ', μ', o', f, w, hf, hw, hW, hM, h0, ho, hRO⟩ := s_write hfl D n0 h (by omega) o (xs (4 * a + 1)) (xs (4 * a + 2)) (xs (4 * a + 3))
  refine z_aload_n C rfl dL_law_444 ?_
  refine z_aload_n C rfl dL_law_445 ?_
  refine z_iload C rfl dL_law_446 ?_
  refine z_iconst (v := 1) C (by decide +kernel) dL_law_448 ?_
  refine z_iadd (v := nI (4 * a + 1)) C (cv_add (4 * a) 1) dL_law_449 ?_
  refine z_sld C hX hbl hbA (4 * a + 1) rfl (by omega) (by omega) dL_law_450 ?_
  refine z_aload_n C rfl dL_law_451 ?_
  refine z_iload C rfl dL_law_452 ?_
  refine z_iconst (v := 2) C (by decide +kernel) dL_law_454 ?_
  refine z_iadd (v := nI (4 * a + 2)) C (cv_add (4 * a) 2) dL_law_455 ?_
  refine z_sld C hX hbl hbA (4 * a + 2) rfl (by omega) (by omega) dL_law_456 ?_
  refine z_aload_n C rfl dL_law_457 ?_
  refine z_iload C rfl dL_law_458 ?_
  refine z_iconst (v := 3) C (by decide +kernel) dL_law_460 ?_
  refine z_iadd (v := nI (4 * a + 3)) C (cv_add (4 * a) 3) dL_law_461 ?_
  refine z_sld C hX hbl hbA (4 * a + 3) rfl (by omega) (by omega) dL_law_462 ?_
  refine z_aload_n C rfl dL_law_463 ?_
  refine z_callHW (st := []) (n := 5) C K hW wl_535 wl_536 wl_45 wl_537 (by decide +kernel) rfl ⟨Nat.le_of_ble_eq_true rfl, Nat.le_of_ble_eq_true rfl⟩ hc (by simp) dL_law_464 rfl ?_
  refine z_istore (ls' := lawL b n0 (nI (4 * a)) (some (.int k)) none) C (by decide) rfl dL_law_467 ?_
  refine z_aload_n C rfl dL_law_469 ?_
  refine z_aload_n C rfl dL_law_470 ?_
  refine z_iload C rfl dL_law_471 ?_
  refine z_iconst (v := 1) C (by decide +kernel) dL_law_473 ?_
  refine z_iadd (v := nI (4 * a + 1)) C (cv_add (4 * a) 1) dL_law_474 ?_
  refine z_sld C hX hbl hbA (4 * a + 1) rfl (by omega) (by omega) dL_law_475 ?_
  refine z_aload_n C rfl dL_law_476 ?_
  refine z_iload C rfl dL_law_477 ?_
  refine z_iconst (v := 2) C (by decide +kernel) dL_law_479 ?_
  refine z_iadd (v := nI (4 * a + 2)) C (cv_add (4 * a) 2) dL_law_480 ?_
  refine z_sld C hX hbl hbA (4 * a + 2) rfl (by omega) (by omega) dL_law_481 ?_
  refine z_aload_n C rfl dL_law_482 ?_
  refine z_iload C rfl dL_law_483 ?_
  refine z_iconst (v := 3) C (by decide +kernel) dL_law_485 ?_
  refine z_iadd (v := nI (4 * a + 3)) C (cv_add (4 * a) 3) dL_law_486 ?_
  refine z_sld C hX hbl hbA (4 * a + 3) rfl (by omega) (by omega) dL_law_487 ?_
  refine z_callV (st := []) C K ok_L_116 hM enc_M (by decide) rfl rfl ⟨by show f + 1 ≤ 11; omega, by show 8 + (6 + 11) + w ≤ 396; omega⟩ hc (by simp) dL_law_488 rfl rfl ?_
  refine z_istore (ls' := lawL b n0 (nI (4 * a)) (some (.int k)) (some (.int r))) C (by decide) rfl dL_law_491 ?_
  exact law_tail C K h0 ho hc dL_law_493 dL_law_494 dL_law_497 dL_law_499 dL_law_504 dL_law_506 dL_law_509 dL_law_510 dL_law_511 dL_law_512 dL_law_514 dL_law_515 dL_law_516 dL_law_521 (by decide) (kk κ' μ' o' hRO)
set_option maxHeartbeats 4000000 in
theorem law_read (hfl : l.stackTraces = false) (C : Cx p l s m args meth c D n0 RL cL_law 7) (K : KX D n0 s s.heap) {b L : Nat} {xs : Nat → Int32} (hX : va_X b L xs s s.heap) (hbl : b < s.heap.size) (hbA : ¬ n0 ≤ b) (hL : L ≤ 256) {a : Nat} (ha : 4 * a + 4 ≤ L) {κ μ : KH} {o : Int64} (hR : RO κ μ a) (hc0 : cells ≤ room_1.cells ∧ slots ≤ room_1.slots) (hc : cells + 1 ≤ room_1.cells ∧ slots + 6 ≤ room_1.slots)
    (kk : ∀ (κ' μ' : KH) (o' : Int64), RO κ' μ' (a + 1) → ZZ p l e room_1 s m args below meth c D n0 127 7 (cells + 1) (slots + 6) Q (κ', μ', o') 1715 (lawL b n0 (nI (4 * a)) none none) []) : ZZ p l e room_1 s m args below meth c D n0 127 7 cells slots Q (κ, μ, o) 524 (lawL b n0 (nI (4 * a)) none none) [] := by
  obtain ⟨n, q, h⟩ := hR
  obtain ⟨k, r, κ', μ', o', f, w, hf, hw, hW, hM, h0, ho, hRO⟩ := s_read hfl D n0 h (by omega) o (xs (4 * a + 1)) (xs (4 * a + 2))
  refine z_aload_n C rfl dL_law_524 ?_
  refine z_aload_n C rfl dL_law_525 ?_
  refine z_iload C rfl dL_law_526 ?_
  refine z_iconst (v := 1) C (by decide +kernel) dL_law_528 ?_
  refine z_iadd (v := nI (4 * a + 1)) C (cv_add (4 * a) 1) dL_law_529 ?_
  refine z_sld C hX hbl hbA (4 * a + 1) rfl (by omega) (by omega) dL_law_530 ?_
  refine z_aload_n C rfl dL_law_531 ?_
  refine z_iload C rfl dL_law_532 ?_
  refine z_iconst (v := 2) C (by decide +kernel) dL_law_534 ?_
  refine z_iadd (v := nI (4 * a + 2)) C (cv_add (4 * a) 2) dL_law_535 ?_
  refine z_sld C hX hbl hbA (4 * a + 2) rfl (by omega) (by omega) dL_law_536 ?_
  refine z_aload_n C rfl dL_law_537 ?_
  refine z_callHW (st := []) (n := 4) C K hW wl_559 wl_560 wl_45 wl_561 (by decide +kernel) rfl ⟨Nat.le_of_ble_eq_true rfl, Nat.le_of_ble_eq_true rfl⟩ hc (by simp) dL_law_538 rfl ?_
  refine z_istore (ls' := lawL b n0 (nI (4 * a)) (some (.int k)) none) C (by decide) rfl dL_law_541 ?_
  refine z_aload_n C rfl dL_law_543 ?_
  refine z_aload_n C rfl dL_law_544 ?_
  refine z_iload C rfl dL_law_545 ?_
  refine z_iconst (v := 1) C (by decide +kernel) dL_law_547 ?_
  refine z_iadd (v := nI (4 * a + 1)) C (cv_add (4 * a) 1) dL_law_548 ?_
  refine z_sld C hX hbl hbA (4 * a + 1) rfl (by omega) (by omega) dL_law_549 ?_
  refine z_aload_n C rfl dL_law_550 ?_
  refine z_iload C rfl dL_law_551 ?_
  refine z_iconst (v := 2) C (by decide +kernel) dL_law_553 ?_
  refine z_iadd (v := nI (4 * a + 2)) C (cv_add (4 * a) 2) dL_law_554 ?_
  refine z_sld C hX hbl hbA (4 * a + 2) rfl (by omega) (by omega) dL_law_555 ?_
  refine z_callV (st := []) C K ok_L_119 hM enc_M (by decide) rfl rfl ⟨by show f + 1 ≤ 11; omega, by show 8 + (3 + 11) + w ≤ 396; omega⟩ hc (by simp) dL_law_556 rfl rfl ?_
  refine z_istore (ls' := lawL b n0 (nI (4 * a)) (some (.int k)) (some (.int r))) C (by decide) rfl dL_law_559 ?_
  exact law_tail C K h0 ho hc dL_law_561 dL_law_562 dL_law_565 dL_law_567 dL_law_572 dL_law_574 dL_law_577 dL_law_578 dL_law_579 dL_law_580 dL_law_582 dL_law_583 dL_law_584 dL_law_589 (by decide) (kk κ' μ' o' hRO)
set_option maxHeartbeats 4000000 in
theorem law_discard (hfl : l.stackTraces = false) (C : Cx p l s m args meth c D n0 RL cL_law 7) (K : KX D n0 s s.heap) {b L : Nat} {xs : Nat → Int32} (hX : va_X b L xs s s.heap) (hbl : b < s.heap.size) (hbA : ¬ n0 ≤ b) (hL : L ≤ 256) {a : Nat} (ha : 4 * a + 4 ≤ L) {κ μ : KH} {o : Int64} (hR : RO κ μ a) (hc0 : cells ≤ room_1.cells ∧ slots ≤ room_1.slots) (hc : cells + 1 ≤ room_1.cells ∧ slots + 6 ≤ room_1.slots)
    (kk : ∀ (κ' μ' : KH) (o' : Int64), RO κ' μ' (a + 1) → ZZ p l e room_1 s m args below meth c D n0 127 7 (cells + 1) (slots + 6) Q (κ', μ', o') 1715 (lawL b n0 (nI (4 * a)) none none) []) : ZZ p l e room_1 s m args below meth c D n0 127 7 cells slots Q (κ, μ, o) 592 (lawL b n0 (nI (4 * a)) none none) [] := by
  obtain ⟨n, q, h⟩ := hR
  obtain ⟨k, r, κ', μ', o', f, w, hf, hw, hW, hM, h0, ho, hRO⟩ := s_discard hfl D n0 h (by omega) o (xs (4 * a + 1)) (xs (4 * a + 2)) (xs (4 * a + 3))
  refine z_aload_n C rfl dL_law_592 ?_
  refine z_aload_n C rfl dL_law_593 ?_
  refine z_iload C rfl dL_law_594 ?_
  refine z_iconst (v := 1) C (by decide +kernel) dL_law_596 ?_
  refine z_iadd (v := nI (4 * a + 1)) C (cv_add (4 * a) 1) dL_law_597 ?_
  refine z_sld C hX hbl hbA (4 * a + 1) rfl (by omega) (by omega) dL_law_598 ?_
  refine z_aload_n C rfl dL_law_599 ?_
  refine z_iload C rfl dL_law_600 ?_
  refine z_iconst (v := 2) C (by decide +kernel) dL_law_602 ?_
  refine z_iadd (v := nI (4 * a + 2)) C (cv_add (4 * a) 2) dL_law_603 ?_
  refine z_sld C hX hbl hbA (4 * a + 2) rfl (by omega) (by omega) dL_law_604 ?_
  refine z_aload_n C rfl dL_law_605 ?_
  refine z_iload C rfl dL_law_606 ?_
  refine z_iconst (v := 3) C (by decide +kernel) dL_law_608 ?_
  refine z_iadd (v := nI (4 * a + 3)) C (cv_add (4 * a) 3) dL_law_609 ?_
  refine z_sld C hX hbl hbA (4 * a + 3) rfl (by omega) (by omega) dL_law_610 ?_
  refine z_aload_n C rfl dL_law_611 ?_
  refine z_callHW (st := []) (n := 5) C K hW wl_566 wl_567 wl_45 wl_568 (by decide +kernel) rfl ⟨Nat.le_of_ble_eq_true rfl, Nat.le_of_ble_eq_true rfl⟩ hc (by simp) dL_law_612 rfl ?_
  refine z_istore (ls' := lawL b n0 (nI (4 * a)) (some (.int k)) none) C (by decide) rfl dL_law_615 ?_
  refine z_aload_n C rfl dL_law_617 ?_
  refine z_aload_n C rfl dL_law_618 ?_
  refine z_iload C rfl dL_law_619 ?_
  refine z_iconst (v := 1) C (by decide +kernel) dL_law_621 ?_
  refine z_iadd (v := nI (4 * a + 1)) C (cv_add (4 * a) 1) dL_law_622 ?_
  refine z_sld C hX hbl hbA (4 * a + 1) rfl (by omega) (by omega) dL_law_623 ?_
  refine z_aload_n C rfl dL_law_624 ?_
  refine z_iload C rfl dL_law_625 ?_
  refine z_iconst (v := 2) C (by decide +kernel) dL_law_627 ?_
  refine z_iadd (v := nI (4 * a + 2)) C (cv_add (4 * a) 2) dL_law_628 ?_
  refine z_sld C hX hbl hbA (4 * a + 2) rfl (by omega) (by omega) dL_law_629 ?_
  refine z_aload_n C rfl dL_law_630 ?_
  refine z_iload C rfl dL_law_631 ?_
  refine z_iconst (v := 3) C (by decide +kernel) dL_law_633 ?_
  refine z_iadd (v := nI (4 * a + 3)) C (cv_add (4 * a) 3) dL_law_634 ?_
  refine z_sld C hX hbl hbA (4 * a + 3) rfl (by omega) (by omega) dL_law_635 ?_
  refine z_callV (st := []) C K ok_L_122 hM enc_M (by decide) rfl rfl ⟨by show f + 1 ≤ 11; omega, by show 8 + (5 + 11) + w ≤ 396; omega⟩ hc (by simp) dL_law_636 rfl rfl ?_
  refine z_istore (ls' := lawL b n0 (nI (4 * a)) (some (.int k)) (some (.int r))) C (by decide) rfl dL_law_639 ?_
  exact law_tail C K h0 ho hc dL_law_641 dL_law_642 dL_law_645 dL_law_647 dL_law_652 dL_law_654 dL_law_657 dL_law_658 dL_law_659 dL_law_660 dL_law_662 dL_law_663 dL_law_664 dL_law_669 (by decide) (kk κ' μ' o' hRO)
set_option maxHeartbeats 4000000 in
theorem law_grow (hfl : l.stackTraces = false) (C : Cx p l s m args meth c D n0 RL cL_law 7) (K : KX D n0 s s.heap) {b L : Nat} {xs : Nat → Int32} (hX : va_X b L xs s s.heap) (hbl : b < s.heap.size) (hbA : ¬ n0 ≤ b) (hL : L ≤ 256) {a : Nat} (ha : 4 * a + 4 ≤ L) {κ μ : KH} {o : Int64} (hR : RO κ μ a) (hc0 : cells ≤ room_1.cells ∧ slots ≤ room_1.slots) (hc : cells + 1 ≤ room_1.cells ∧ slots + 6 ≤ room_1.slots)
    (kk : ∀ (κ' μ' : KH) (o' : Int64), RO κ' μ' (a + 1) → ZZ p l e room_1 s m args below meth c D n0 127 7 (cells + 1) (slots + 6) Q (κ', μ', o') 1715 (lawL b n0 (nI (4 * a)) none none) []) : ZZ p l e room_1 s m args below meth c D n0 127 7 cells slots Q (κ, μ, o) 672 (lawL b n0 (nI (4 * a)) none none) [] := by
  obtain ⟨n, q, h⟩ := hR
  obtain ⟨k, r, κ', μ', o', f, w, hf, hw, hW, hM, h0, ho, hRO⟩ := s_grow hfl D n0 h (by omega) o (xs (4 * a + 1))
  refine z_aload_n C rfl dL_law_672 ?_
  refine z_aload_n C rfl dL_law_673 ?_
  refine z_iload C rfl dL_law_674 ?_
  refine z_iconst (v := 1) C (by decide +kernel) dL_law_676 ?_
  refine z_iadd (v := nI (4 * a + 1)) C (cv_add (4 * a) 1) dL_law_677 ?_
  refine z_sld C hX hbl hbA (4 * a + 1) rfl (by omega) (by omega) dL_law_678 ?_
  refine z_aload_n C rfl dL_law_679 ?_
  refine z_callHW (st := []) (n := 3) C K hW wl_574 wl_575 wl_45 wl_576 (by decide +kernel) rfl ⟨Nat.le_of_ble_eq_true rfl, Nat.le_of_ble_eq_true rfl⟩ hc (by simp) dL_law_680 rfl ?_
  refine z_istore (ls' := lawL b n0 (nI (4 * a)) (some (.int k)) none) C (by decide) rfl dL_law_683 ?_
  refine z_aload_n C rfl dL_law_685 ?_
  refine z_aload_n C rfl dL_law_686 ?_
  refine z_iload C rfl dL_law_687 ?_
  refine z_iconst (v := 1) C (by decide +kernel) dL_law_689 ?_
  refine z_iadd (v := nI (4 * a + 1)) C (cv_add (4 * a) 1) dL_law_690 ?_
  refine z_sld C hX hbl hbA (4 * a + 1) rfl (by omega) (by omega) dL_law_691 ?_
  refine z_callV (st := []) C K ok_L_125 hM enc_M (by decide) rfl rfl ⟨by show f + 1 ≤ 11; omega, by show 8 + (2 + 11) + w ≤ 396; omega⟩ hc (by simp) dL_law_692 rfl rfl ?_
  refine z_istore (ls' := lawL b n0 (nI (4 * a)) (some (.int k)) (some (.int r))) C (by decide) rfl dL_law_695 ?_
  exact law_tail C K h0 ho hc dL_law_697 dL_law_698 dL_law_701 dL_law_703 dL_law_708 dL_law_710 dL_law_713 dL_law_714 dL_law_715 dL_law_716 dL_law_718 dL_law_719 dL_law_720 dL_law_725 (by decide) (kk κ' μ' o' hRO)
set_option maxHeartbeats 4000000 in
theorem law_shrink (hfl : l.stackTraces = false) (C : Cx p l s m args meth c D n0 RL cL_law 7) (K : KX D n0 s s.heap) {b L : Nat} {xs : Nat → Int32} (hX : va_X b L xs s s.heap) (hbl : b < s.heap.size) (hbA : ¬ n0 ≤ b) (hL : L ≤ 256) {a : Nat} (ha : 4 * a + 4 ≤ L) {κ μ : KH} {o : Int64} (hR : RO κ μ a) (hc0 : cells ≤ room_1.cells ∧ slots ≤ room_1.slots) (hc : cells + 1 ≤ room_1.cells ∧ slots + 6 ≤ room_1.slots)
    (kk : ∀ (κ' μ' : KH) (o' : Int64), RO κ' μ' (a + 1) → ZZ p l e room_1 s m args below meth c D n0 127 7 (cells + 1) (slots + 6) Q (κ', μ', o') 1715 (lawL b n0 (nI (4 * a)) none none) []) : ZZ p l e room_1 s m args below meth c D n0 127 7 cells slots Q (κ, μ, o) 728 (lawL b n0 (nI (4 * a)) none none) [] := by
  obtain ⟨n, q, h⟩ := hR
  obtain ⟨k, r, κ', μ', o', f, w, hf, hw, hW, hM, h0, ho, hRO⟩ := s_shrink hfl D n0 h (by omega) o (xs (4 * a + 1))
  refine z_aload_n C rfl dL_law_728 ?_
  refine z_aload_n C rfl dL_law_729 ?_
  refine z_iload C rfl dL_law_730 ?_
  refine z_iconst (v := 1) C (by decide +kernel) dL_law_732 ?_
  refine z_iadd (v := nI (4 * a + 1)) C (cv_add (4 * a) 1) dL_law_733 ?_
  refine z_sld C hX hbl hbA (4 * a + 1) rfl (by omega) (by omega) dL_law_734 ?_
  refine z_aload_n C rfl dL_law_735 ?_
  refine z_callHW (st := []) (n := 3) C K hW wl_586 wl_587 wl_45 wl_588 (by decide +kernel) rfl ⟨Nat.le_of_ble_eq_true rfl, Nat.le_of_ble_eq_true rfl⟩ hc (by simp) dL_law_736 rfl ?_
  refine z_istore (ls' := lawL b n0 (nI (4 * a)) (some (.int k)) none) C (by decide) rfl dL_law_739 ?_
  refine z_aload_n C rfl dL_law_741 ?_
  refine z_aload_n C rfl dL_law_742 ?_
  refine z_iload C rfl dL_law_743 ?_
  refine z_iconst (v := 1) C (by decide +kernel) dL_law_745 ?_
  refine z_iadd (v := nI (4 * a + 1)) C (cv_add (4 * a) 1) dL_law_746 ?_
  refine z_sld C hX hbl hbA (4 * a + 1) rfl (by omega) (by omega) dL_law_747 ?_
  refine z_callV (st := []) C K ok_L_128 hM enc_M (by decide) rfl rfl ⟨by show f + 1 ≤ 11; omega, by show 8 + (3 + 11) + w ≤ 396; omega⟩ hc (by simp) dL_law_748 rfl rfl ?_
  refine z_istore (ls' := lawL b n0 (nI (4 * a)) (some (.int k)) (some (.int r))) C (by decide) rfl dL_law_751 ?_
  exact law_tail C K h0 ho hc dL_law_753 dL_law_754 dL_law_757 dL_law_759 dL_law_764 dL_law_766 dL_law_769 dL_law_770 dL_law_771 dL_law_772 dL_law_774 dL_law_775 dL_law_776 dL_law_781 (by decide) (kk κ' μ' o' hRO)
set_option maxHeartbeats 4000000 in
theorem law_back (hfl : l.stackTraces = false) (C : Cx p l s m args meth c D n0 RL cL_law 7) (K : KX D n0 s s.heap) {b L : Nat} {xs : Nat → Int32} (hX : va_X b L xs s s.heap) (hbl : b < s.heap.size) (hbA : ¬ n0 ≤ b) (hL : L ≤ 256) {a : Nat} (ha : 4 * a + 4 ≤ L) {κ μ : KH} {o : Int64} (hR : RO κ μ a) (hc0 : cells ≤ room_1.cells ∧ slots ≤ room_1.slots) (hc : cells + 1 ≤ room_1.cells ∧ slots + 6 ≤ room_1.slots)
    (kk : ∀ (κ' μ' : KH) (o' : Int64), RO κ' μ' (a + 1) → ZZ p l e room_1 s m args below meth c D n0 127 7 (cells + 1) (slots + 6) Q (κ', μ', o') 1715 (lawL b n0 (nI (4 * a)) none none) []) : ZZ p l e room_1 s m args below meth c D n0 127 7 cells slots Q (κ, μ, o) 784 (lawL b n0 (nI (4 * a)) none none) [] := by
  obtain ⟨n, q, h⟩ := hR
  obtain ⟨k, r, κ', μ', o', f, w, hf, hw, hW, hM, h0, ho, hRO⟩ := s_back hfl D n0 h (by omega) o (xs (4 * a + 1)) (xs (4 * a + 2))
  refine z_aload_n C rfl dL_law_784 ?_
  refine z_aload_n C rfl dL_law_785 ?_
  refine z_iload C rfl dL_law_786 ?_
  refine z_iconst (v := 1) C (by decide +kernel) dL_law_788 ?_
  refine z_iadd (v := nI (4 * a + 1)) C (cv_add (4 * a) 1) dL_law_789 ?_
  refine z_sld C hX hbl hbA (4 * a + 1) rfl (by omega) (by omega) dL_law_790 ?_
  refine z_aload_n C rfl dL_law_791 ?_
  refine z_iload C rfl dL_law_792 ?_
  refine z_iconst (v := 2) C (by decide +kernel) dL_law_794 ?_
  refine z_iadd (v := nI (4 * a + 2)) C (cv_add (4 * a) 2) dL_law_795 ?_
  refine z_sld C hX hbl hbA (4 * a + 2) rfl (by omega) (by omega) dL_law_796 ?_
  refine z_aload_n C rfl dL_law_797 ?_
  refine z_callHW (st := []) (n := 4) C K hW wl_597 wl_598 wl_45 wl_599 (by decide +kernel) rfl ⟨Nat.le_of_ble_eq_true rfl, Nat.le_of_ble_eq_true rfl⟩ hc (by simp) dL_law_798 rfl ?_
  refine z_istore (ls' := lawL b n0 (nI (4 * a)) (some (.int k)) none) C (by decide) rfl dL_law_801 ?_
  refine z_aload_n C rfl dL_law_803 ?_
  refine z_aload_n C rfl dL_law_804 ?_
  refine z_iload C rfl dL_law_805 ?_
  refine z_iconst (v := 1) C (by decide +kernel) dL_law_807 ?_
  refine z_iadd (v := nI (4 * a + 1)) C (cv_add (4 * a) 1) dL_law_808 ?_
  refine z_sld C hX hbl hbA (4 * a + 1) rfl (by omega) (by omega) dL_law_809 ?_
  refine z_aload_n C rfl dL_law_810 ?_
  refine z_iload C rfl dL_law_811 ?_
  refine z_iconst (v := 2) C (by decide +kernel) dL_law_813 ?_
  refine z_iadd (v := nI (4 * a + 2)) C (cv_add (4 * a) 2) dL_law_814 ?_
  refine z_sld C hX hbl hbA (4 * a + 2) rfl (by omega) (by omega) dL_law_815 ?_
  refine z_callV (st := []) C K ok_L_131 hM enc_M (by decide) rfl rfl ⟨by show f + 1 ≤ 11; omega, by show 8 + (4 + 11) + w ≤ 396; omega⟩ hc (by simp) dL_law_816 rfl rfl ?_
  refine z_istore (ls' := lawL b n0 (nI (4 * a)) (some (.int k)) (some (.int r))) C (by decide) rfl dL_law_819 ?_
  exact law_tail C K h0 ho hc dL_law_821 dL_law_822 dL_law_825 dL_law_827 dL_law_832 dL_law_834 dL_law_837 dL_law_838 dL_law_839 dL_law_840 dL_law_842 dL_law_843 dL_law_844 dL_law_849 (by decide) (kk κ' μ' o' hRO)
set_option maxHeartbeats 4000000 in
theorem law_quota (hfl : l.stackTraces = false) (C : Cx p l s m args meth c D n0 RL cL_law 7) (K : KX D n0 s s.heap) {b L : Nat} {xs : Nat → Int32} (hX : va_X b L xs s s.heap) (hbl : b < s.heap.size) (hbA : ¬ n0 ≤ b) (hL : L ≤ 256) {a : Nat} (ha : 4 * a + 4 ≤ L) {κ μ : KH} {o : Int64} (hR : RO κ μ a) (hc0 : cells ≤ room_1.cells ∧ slots ≤ room_1.slots) (hc : cells + 1 ≤ room_1.cells ∧ slots + 6 ≤ room_1.slots)
    (kk : ∀ (κ' μ' : KH) (o' : Int64), RO κ' μ' (a + 1) → ZZ p l e room_1 s m args below meth c D n0 127 7 (cells + 1) (slots + 6) Q (κ', μ', o') 1715 (lawL b n0 (nI (4 * a)) none none) []) : ZZ p l e room_1 s m args below meth c D n0 127 7 cells slots Q (κ, μ, o) 852 (lawL b n0 (nI (4 * a)) none none) [] := by
  obtain ⟨n, q, h⟩ := hR
  obtain ⟨k, r, κ', μ', o', f, w, hf, hw, hW, hM, h0, ho, hRO⟩ := s_quota hfl D n0 h (by omega) o (xs (4 * a + 1)) (xs (4 * a + 2))
  refine z_aload_n C rfl dL_law_852 ?_
  refine z_aload_n C rfl dL_law_853 ?_
  refine z_iload C rfl dL_law_854 ?_
  refine z_iconst (v := 1) C (by decide +kernel) dL_law_856 ?_
  refine z_iadd (v := nI (4 * a + 1)) C (cv_add (4 * a) 1) dL_law_857 ?_
  refine z_sld C hX hbl hbA (4 * a + 1) rfl (by omega) (by omega) dL_law_858 ?_
  refine z_aload_n C rfl dL_law_859 ?_
  refine z_iload C rfl dL_law_860 ?_
  refine z_iconst (v := 2) C (by decide +kernel) dL_law_862 ?_
  refine z_iadd (v := nI (4 * a + 2)) C (cv_add (4 * a) 2) dL_law_863 ?_
  refine z_sld C hX hbl hbA (4 * a + 2) rfl (by omega) (by omega) dL_law_864 ?_
  refine z_aload_n C rfl dL_law_865 ?_
  refine z_callHW (st := []) (n := 4) C K hW wl_610 wl_611 wl_45 wl_612 (by decide +kernel) rfl ⟨Nat.le_of_ble_eq_true rfl, Nat.le_of_ble_eq_true rfl⟩ hc (by simp) dL_law_866 rfl ?_
  refine z_istore (ls' := lawL b n0 (nI (4 * a)) (some (.int k)) none) C (by decide) rfl dL_law_869 ?_
  refine z_aload_n C rfl dL_law_871 ?_
  refine z_aload_n C rfl dL_law_872 ?_
  refine z_iload C rfl dL_law_873 ?_
  refine z_iconst (v := 1) C (by decide +kernel) dL_law_875 ?_
  refine z_iadd (v := nI (4 * a + 1)) C (cv_add (4 * a) 1) dL_law_876 ?_
  refine z_sld C hX hbl hbA (4 * a + 1) rfl (by omega) (by omega) dL_law_877 ?_
  refine z_aload_n C rfl dL_law_878 ?_
  refine z_iload C rfl dL_law_879 ?_
  refine z_iconst (v := 2) C (by decide +kernel) dL_law_881 ?_
  refine z_iadd (v := nI (4 * a + 2)) C (cv_add (4 * a) 2) dL_law_882 ?_
  refine z_sld C hX hbl hbA (4 * a + 2) rfl (by omega) (by omega) dL_law_883 ?_
  refine z_callV (st := []) C K ok_L_134 hM enc_M (by decide) rfl rfl ⟨by show f + 1 ≤ 11; omega, by show 8 + (4 + 11) + w ≤ 396; omega⟩ hc (by simp) dL_law_884 rfl rfl ?_
  refine z_istore (ls' := lawL b n0 (nI (4 * a)) (some (.int k)) (some (.int r))) C (by decide) rfl dL_law_887 ?_
  exact law_tail C K h0 ho hc dL_law_889 dL_law_890 dL_law_893 dL_law_895 dL_law_900 dL_law_902 dL_law_905 dL_law_906 dL_law_907 dL_law_908 dL_law_910 dL_law_911 dL_law_912 dL_law_917 (by decide) (kk κ' μ' o' hRO)
set_option maxHeartbeats 4000000 in
theorem law_mark (hfl : l.stackTraces = false) (C : Cx p l s m args meth c D n0 RL cL_law 7) (K : KX D n0 s s.heap) {b L : Nat} {xs : Nat → Int32} (hX : va_X b L xs s s.heap) (hbl : b < s.heap.size) (hbA : ¬ n0 ≤ b) (hL : L ≤ 256) {a : Nat} (ha : 4 * a + 4 ≤ L) {κ μ : KH} {o : Int64} (hR : RO κ μ a) (hc0 : cells ≤ room_1.cells ∧ slots ≤ room_1.slots) (hc : cells + 1 ≤ room_1.cells ∧ slots + 6 ≤ room_1.slots)
    (kk : ∀ (κ' μ' : KH) (o' : Int64), RO κ' μ' (a + 1) → ZZ p l e room_1 s m args below meth c D n0 127 7 (cells + 1) (slots + 6) Q (κ', μ', o') 1715 (lawL b n0 (nI (4 * a)) none none) []) : ZZ p l e room_1 s m args below meth c D n0 127 7 cells slots Q (κ, μ, o) 920 (lawL b n0 (nI (4 * a)) none none) [] := by
  obtain ⟨n, q, h⟩ := hR
  obtain ⟨r, κ', μ', f, w, f5, w5, hf, hw, hf5, hw5, hC, hM, hRO⟩ := s_mark (l := l) D n0 h o (xs (4 * a + 1)) (xs (4 * a + 2))
  refine z_aload_n C rfl dL_law_920 ?_
  refine z_aload_n C rfl dL_law_921 ?_
  refine z_iload C rfl dL_law_922 ?_
  refine z_iconst (v := 1) C (by decide +kernel) dL_law_924 ?_
  refine z_iadd (v := nI (4 * a + 1)) C (cv_add (4 * a) 1) dL_law_925 ?_
  refine z_sld C hX hbl hbA (4 * a + 1) rfl (by omega) (by omega) dL_law_926 ?_
  refine z_aload_n C rfl dL_law_927 ?_
  refine z_iload C rfl dL_law_928 ?_
  refine z_iconst (v := 2) C (by decide +kernel) dL_law_930 ?_
  refine z_iadd (v := nI (4 * a + 2)) C (cv_add (4 * a) 2) dL_law_931 ?_
  refine z_sld C hX hbl hbA (4 * a + 2) rfl (by omega) (by omega) dL_law_932 ?_
  refine z_callV (st := []) C K ok_L_135 hC enc_0 (by decide) rfl rfl ⟨by show f + 1 ≤ 11; omega, by show 8 + (3 + 11) + w ≤ 396; omega⟩ hc0 (by simp) dL_law_933 rfl rfl ?_
  refine z_aload_n C rfl dL_law_936 ?_
  refine z_aload_n C rfl dL_law_937 ?_
  refine z_iload C rfl dL_law_938 ?_
  refine z_iconst (v := 1) C (by decide +kernel) dL_law_940 ?_
  refine z_iadd (v := nI (4 * a + 1)) C (cv_add (4 * a) 1) dL_law_941 ?_
  refine z_sld C hX hbl hbA (4 * a + 1) rfl (by omega) (by omega) dL_law_942 ?_
  refine z_aload_n C rfl dL_law_943 ?_
  refine z_iload C rfl dL_law_944 ?_
  refine z_iconst (v := 2) C (by decide +kernel) dL_law_946 ?_
  refine z_iadd (v := nI (4 * a + 2)) C (cv_add (4 * a) 2) dL_law_947 ?_
  refine z_sld C hX hbl hbA (4 * a + 2) rfl (by omega) (by omega) dL_law_948 ?_
  refine z_callV (st := [.int r]) C K ok_L_139 hM enc_M (by decide) rfl rfl ⟨by show f5 + 1 ≤ 11; omega, by show 8 + (3 + 11) + w5 ≤ 396; omega⟩ hc0 (by simp [Value.category]) dL_law_949 rfl rfl ?_
  exact z_icmp_eq (tgt := 1715) C dL_law_952 (by decide) (fun _ => z_widen (by omega) (by omega) (kk κ' μ' o hRO)) (fun q => absurd rfl q)
set_option maxHeartbeats 4000000 in
theorem law_marked (hfl : l.stackTraces = false) (C : Cx p l s m args meth c D n0 RL cL_law 7) (K : KX D n0 s s.heap) {b L : Nat} {xs : Nat → Int32} (hX : va_X b L xs s s.heap) (hbl : b < s.heap.size) (hbA : ¬ n0 ≤ b) (hL : L ≤ 256) {a : Nat} (ha : 4 * a + 4 ≤ L) {κ μ : KH} {o : Int64} (hR : RO κ μ a) (hc0 : cells ≤ room_1.cells ∧ slots ≤ room_1.slots) (hc : cells + 1 ≤ room_1.cells ∧ slots + 6 ≤ room_1.slots)
    (kk : ∀ (κ' μ' : KH) (o' : Int64), RO κ' μ' (a + 1) → ZZ p l e room_1 s m args below meth c D n0 127 7 (cells + 1) (slots + 6) Q (κ', μ', o') 1715 (lawL b n0 (nI (4 * a)) none none) []) : ZZ p l e room_1 s m args below meth c D n0 127 7 cells slots Q (κ, μ, o) 957 (lawL b n0 (nI (4 * a)) none none) [] := by
  obtain ⟨n, q, h⟩ := hR
  obtain ⟨k, r, κ', μ', o', f, w, hf, hw, hW, hM, h0, ho, hRO⟩ := s_marked hfl D n0 h (by omega) o (xs (4 * a + 1))
  refine z_aload_n C rfl dL_law_957 ?_
  refine z_aload_n C rfl dL_law_958 ?_
  refine z_iload C rfl dL_law_959 ?_
  refine z_iconst (v := 1) C (by decide +kernel) dL_law_961 ?_
  refine z_iadd (v := nI (4 * a + 1)) C (cv_add (4 * a) 1) dL_law_962 ?_
  refine z_sld C hX hbl hbA (4 * a + 1) rfl (by omega) (by omega) dL_law_963 ?_
  refine z_aload_n C rfl dL_law_964 ?_
  refine z_callHW (st := []) (n := 3) C K hW wl_618 wl_619 wl_45 wl_620 (by decide +kernel) rfl ⟨Nat.le_of_ble_eq_true rfl, Nat.le_of_ble_eq_true rfl⟩ hc (by simp) dL_law_965 rfl ?_
  refine z_istore (ls' := lawL b n0 (nI (4 * a)) (some (.int k)) none) C (by decide) rfl dL_law_968 ?_
  refine z_aload_n C rfl dL_law_970 ?_
  refine z_aload_n C rfl dL_law_971 ?_
  refine z_iload C rfl dL_law_972 ?_
  refine z_iconst (v := 1) C (by decide +kernel) dL_law_974 ?_
  refine z_iadd (v := nI (4 * a + 1)) C (cv_add (4 * a) 1) dL_law_975 ?_
  refine z_sld C hX hbl hbA (4 * a + 1) rfl (by omega) (by omega) dL_law_976 ?_
  refine z_callV (st := []) C K ok_L_142 hM enc_M (by decide) rfl rfl ⟨by show f + 1 ≤ 11; omega, by show 8 + (2 + 11) + w ≤ 396; omega⟩ hc (by simp) dL_law_977 rfl rfl ?_
  refine z_istore (ls' := lawL b n0 (nI (4 * a)) (some (.int k)) (some (.int r))) C (by decide) rfl dL_law_980 ?_
  exact law_tail C K h0 ho hc dL_law_982 dL_law_983 dL_law_986 dL_law_988 dL_law_993 dL_law_995 dL_law_998 dL_law_999 dL_law_1000 dL_law_1001 dL_law_1003 dL_law_1004 dL_law_1005 dL_law_1010 (by decide) (kk κ' μ' o' hRO)
set_option maxHeartbeats 4000000 in
theorem law_commit (hfl : l.stackTraces = false) (C : Cx p l s m args meth c D n0 RL cL_law 7) (K : KX D n0 s s.heap) {b L : Nat} {xs : Nat → Int32} (hX : va_X b L xs s s.heap) (hbl : b < s.heap.size) (hbA : ¬ n0 ≤ b) (hL : L ≤ 256) {a : Nat} (ha : 4 * a + 4 ≤ L) {κ μ : KH} {o : Int64} (hR : RO κ μ a) (hc0 : cells ≤ room_1.cells ∧ slots ≤ room_1.slots) (hc : cells + 1 ≤ room_1.cells ∧ slots + 6 ≤ room_1.slots)
    (kk : ∀ (κ' μ' : KH) (o' : Int64), RO κ' μ' (a + 1) → ZZ p l e room_1 s m args below meth c D n0 127 7 (cells + 1) (slots + 6) Q (κ', μ', o') 1715 (lawL b n0 (nI (4 * a)) none none) []) : ZZ p l e room_1 s m args below meth c D n0 127 7 cells slots Q (κ, μ, o) 1013 (lawL b n0 (nI (4 * a)) none none) [] := by
  obtain ⟨n, q, h⟩ := hR
  obtain ⟨r, κ', μ', f, w, f5, w5, hf, hw, hf5, hw5, hC, hM, hRO⟩ := s_commit (l := l) D n0 h o
  refine z_aload_n C rfl dL_law_1013 ?_
  refine z_callV (st := []) C K ok_L_143 hC enc_0 (by decide) rfl rfl ⟨by show f + 1 ≤ 11; omega, by show 8 + (1 + 11) + w ≤ 396; omega⟩ hc0 (by simp) dL_law_1014 rfl rfl ?_
  refine z_aload_n C rfl dL_law_1017 ?_
  refine z_callV (st := [.int r]) C K ok_L_146 hM enc_M (by decide) rfl rfl ⟨by show f5 + 1 ≤ 11; omega, by show 8 + (1 + 11) + w5 ≤ 396; omega⟩ hc0 (by simp [Value.category]) dL_law_1018 rfl rfl ?_
  exact z_icmp_eq (tgt := 1715) C dL_law_1021 (by decide) (fun _ => z_widen (by omega) (by omega) (kk κ' μ' o hRO)) (fun q => absurd rfl q)
set_option maxHeartbeats 4000000 in
theorem law_cut (hfl : l.stackTraces = false) (C : Cx p l s m args meth c D n0 RL cL_law 7) (K : KX D n0 s s.heap) {b L : Nat} {xs : Nat → Int32} (hX : va_X b L xs s s.heap) (hbl : b < s.heap.size) (hbA : ¬ n0 ≤ b) (hL : L ≤ 256) {a : Nat} (ha : 4 * a + 4 ≤ L) {κ μ : KH} {o : Int64} (hR : RO κ μ a) (hc0 : cells ≤ room_1.cells ∧ slots ≤ room_1.slots) (hc : cells + 1 ≤ room_1.cells ∧ slots + 6 ≤ room_1.slots)
    (kk : ∀ (κ' μ' : KH) (o' : Int64), RO κ' μ' (a + 1) → ZZ p l e room_1 s m args below meth c D n0 127 7 (cells + 1) (slots + 6) Q (κ', μ', o') 1715 (lawL b n0 (nI (4 * a)) none none) []) : ZZ p l e room_1 s m args below meth c D n0 127 7 cells slots Q (κ, μ, o) 1026 (lawL b n0 (nI (4 * a)) none none) [] := by
  obtain ⟨n, q, h⟩ := hR
  obtain ⟨k, r, κ', μ', o', f, w, hf, hw, hW, hM, h0, ho, hRO⟩ := s_cut hfl D n0 h (by omega) o (xs (4 * a + 1))
  refine z_aload_n C rfl dL_law_1026 ?_
  refine z_aload_n C rfl dL_law_1027 ?_
  refine z_iload C rfl dL_law_1028 ?_
  refine z_iconst (v := 1) C (by decide +kernel) dL_law_1030 ?_
  refine z_iadd (v := nI (4 * a + 1)) C (cv_add (4 * a) 1) dL_law_1031 ?_
  refine z_sld C hX hbl hbA (4 * a + 1) rfl (by omega) (by omega) dL_law_1032 ?_
  refine z_aload_n C rfl dL_law_1033 ?_
  refine z_callHW (st := []) (n := 3) C K hW wl_630 wl_631 wl_45 wl_632 (by decide +kernel) rfl ⟨Nat.le_of_ble_eq_true rfl, Nat.le_of_ble_eq_true rfl⟩ hc (by simp) dL_law_1034 rfl ?_
  refine z_istore (ls' := lawL b n0 (nI (4 * a)) (some (.int k)) none) C (by decide) rfl dL_law_1037 ?_
  refine z_aload_n C rfl dL_law_1039 ?_
  refine z_aload_n C rfl dL_law_1040 ?_
  refine z_iload C rfl dL_law_1041 ?_
  refine z_iconst (v := 1) C (by decide +kernel) dL_law_1043 ?_
  refine z_iadd (v := nI (4 * a + 1)) C (cv_add (4 * a) 1) dL_law_1044 ?_
  refine z_sld C hX hbl hbA (4 * a + 1) rfl (by omega) (by omega) dL_law_1045 ?_
  refine z_callV (st := []) C K ok_L_149 hM enc_M (by decide) rfl rfl ⟨by show f + 1 ≤ 11; omega, by show 8 + (2 + 11) + w ≤ 396; omega⟩ hc (by simp) dL_law_1046 rfl rfl ?_
  refine z_istore (ls' := lawL b n0 (nI (4 * a)) (some (.int k)) (some (.int r))) C (by decide) rfl dL_law_1049 ?_
  exact law_tail C K h0 ho hc dL_law_1051 dL_law_1052 dL_law_1055 dL_law_1057 dL_law_1062 dL_law_1064 dL_law_1067 dL_law_1068 dL_law_1069 dL_law_1070 dL_law_1072 dL_law_1073 dL_law_1074 dL_law_1079 (by decide) (kk κ' μ' o' hRO)
set_option maxHeartbeats 4000000 in
theorem law_hold (hfl : l.stackTraces = false) (C : Cx p l s m args meth c D n0 RL cL_law 7) (K : KX D n0 s s.heap) {b L : Nat} {xs : Nat → Int32} (hX : va_X b L xs s s.heap) (hbl : b < s.heap.size) (hbA : ¬ n0 ≤ b) (hL : L ≤ 256) {a : Nat} (ha : 4 * a + 4 ≤ L) {κ μ : KH} {o : Int64} (hR : RO κ μ a) (hc0 : cells ≤ room_1.cells ∧ slots ≤ room_1.slots) (hc : cells + 1 ≤ room_1.cells ∧ slots + 6 ≤ room_1.slots)
    (kk : ∀ (κ' μ' : KH) (o' : Int64), RO κ' μ' (a + 1) → ZZ p l e room_1 s m args below meth c D n0 127 7 (cells + 1) (slots + 6) Q (κ', μ', o') 1715 (lawL b n0 (nI (4 * a)) none none) []) : ZZ p l e room_1 s m args below meth c D n0 127 7 cells slots Q (κ, μ, o) 1082 (lawL b n0 (nI (4 * a)) none none) [] := by
  obtain ⟨n, q, h⟩ := hR
  obtain ⟨k, r, κ', μ', o', f, w, hf, hw, hW, hM, h0, ho, hRO⟩ := s_hold hfl D n0 h (by omega) o
  refine z_aload_n C rfl dL_law_1082 ?_
  refine z_aload_n C rfl dL_law_1083 ?_
  refine z_callHW (st := []) (n := 2) C K hW wl_642 wl_643 wl_45 wl_644 (by decide +kernel) rfl ⟨Nat.le_of_ble_eq_true rfl, Nat.le_of_ble_eq_true rfl⟩ hc (by simp) dL_law_1084 rfl ?_
  refine z_istore (ls' := lawL b n0 (nI (4 * a)) (some (.int k)) none) C (by decide) rfl dL_law_1087 ?_
  refine z_aload_n C rfl dL_law_1089 ?_
  refine z_callV (st := []) C K ok_L_153 hM enc_M (by decide) rfl rfl ⟨by show f + 1 ≤ 11; omega, by show 8 + (1 + 11) + w ≤ 396; omega⟩ hc (by simp) dL_law_1090 rfl rfl ?_
  refine z_istore (ls' := lawL b n0 (nI (4 * a)) (some (.int k)) (some (.int r))) C (by decide) rfl dL_law_1093 ?_
  exact law_tail C K h0 ho hc dL_law_1095 dL_law_1096 dL_law_1099 dL_law_1101 dL_law_1106 dL_law_1108 dL_law_1111 dL_law_1112 dL_law_1113 dL_law_1114 dL_law_1116 dL_law_1117 dL_law_1118 dL_law_1123 (by decide) (kk κ' μ' o' hRO)
set_option maxHeartbeats 4000000 in
theorem law_release (hfl : l.stackTraces = false) (C : Cx p l s m args meth c D n0 RL cL_law 7) (K : KX D n0 s s.heap) {b L : Nat} {xs : Nat → Int32} (hX : va_X b L xs s s.heap) (hbl : b < s.heap.size) (hbA : ¬ n0 ≤ b) (hL : L ≤ 256) {a : Nat} (ha : 4 * a + 4 ≤ L) {κ μ : KH} {o : Int64} (hR : RO κ μ a) (hc0 : cells ≤ room_1.cells ∧ slots ≤ room_1.slots) (hc : cells + 1 ≤ room_1.cells ∧ slots + 6 ≤ room_1.slots)
    (kk : ∀ (κ' μ' : KH) (o' : Int64), RO κ' μ' (a + 1) → ZZ p l e room_1 s m args below meth c D n0 127 7 (cells + 1) (slots + 6) Q (κ', μ', o') 1715 (lawL b n0 (nI (4 * a)) none none) []) : ZZ p l e room_1 s m args below meth c D n0 127 7 cells slots Q (κ, μ, o) 1126 (lawL b n0 (nI (4 * a)) none none) [] := by
  obtain ⟨n, q, h⟩ := hR
  obtain ⟨r, κ', μ', f, w, f5, w5, hf, hw, hf5, hw5, hC, hM, hRO⟩ := s_release (l := l) D n0 h o
  refine z_aload_n C rfl dL_law_1126 ?_
  refine z_callV (st := []) C K ok_L_154 hC enc_0 (by decide) rfl rfl ⟨by show f + 1 ≤ 11; omega, by show 8 + (2 + 11) + w ≤ 396; omega⟩ hc0 (by simp) dL_law_1127 rfl rfl ?_
  refine z_aload_n C rfl dL_law_1130 ?_
  refine z_callV (st := [.int r]) C K ok_L_158 hM enc_M (by decide) rfl rfl ⟨by show f5 + 1 ≤ 11; omega, by show 8 + (2 + 11) + w5 ≤ 396; omega⟩ hc0 (by simp [Value.category]) dL_law_1131 rfl rfl ?_
  exact z_icmp_eq (tgt := 1715) C dL_law_1134 (by decide) (fun _ => z_widen (by omega) (by omega) (kk κ' μ' o hRO)) (fun q => absurd rfl q)
set_option maxHeartbeats 4000000 in
theorem law_patience (hfl : l.stackTraces = false) (C : Cx p l s m args meth c D n0 RL cL_law 7) (K : KX D n0 s s.heap) {b L : Nat} {xs : Nat → Int32} (hX : va_X b L xs s s.heap) (hbl : b < s.heap.size) (hbA : ¬ n0 ≤ b) (hL : L ≤ 256) {a : Nat} (ha : 4 * a + 4 ≤ L) {κ μ : KH} {o : Int64} (hR : RO κ μ a) (hc0 : cells ≤ room_1.cells ∧ slots ≤ room_1.slots) (hc : cells + 1 ≤ room_1.cells ∧ slots + 6 ≤ room_1.slots)
    (kk : ∀ (κ' μ' : KH) (o' : Int64), RO κ' μ' (a + 1) → ZZ p l e room_1 s m args below meth c D n0 127 7 (cells + 1) (slots + 6) Q (κ', μ', o') 1715 (lawL b n0 (nI (4 * a)) none none) []) : ZZ p l e room_1 s m args below meth c D n0 127 7 cells slots Q (κ, μ, o) 1139 (lawL b n0 (nI (4 * a)) none none) [] := by
  obtain ⟨n, q, h⟩ := hR
  obtain ⟨k, r, κ', μ', o', f, w, hf, hw, hW, hM, h0, ho, hRO⟩ := s_patience hfl D n0 h (by omega) o (xs (4 * a + 1))
  refine z_aload_n C rfl dL_law_1139 ?_
  refine z_aload_n C rfl dL_law_1140 ?_
  refine z_iload C rfl dL_law_1141 ?_
  refine z_iconst (v := 1) C (by decide +kernel) dL_law_1143 ?_
  refine z_iadd (v := nI (4 * a + 1)) C (cv_add (4 * a) 1) dL_law_1144 ?_
  refine z_sld C hX hbl hbA (4 * a + 1) rfl (by omega) (by omega) dL_law_1145 ?_
  refine z_aload_n C rfl dL_law_1146 ?_
  refine z_callHW (st := []) (n := 3) C K hW wl_650 wl_651 wl_45 wl_652 (by decide +kernel) rfl ⟨Nat.le_of_ble_eq_true rfl, Nat.le_of_ble_eq_true rfl⟩ hc (by simp) dL_law_1147 rfl ?_
  refine z_istore (ls' := lawL b n0 (nI (4 * a)) (some (.int k)) none) C (by decide) rfl dL_law_1150 ?_
  refine z_aload_n C rfl dL_law_1152 ?_
  refine z_aload_n C rfl dL_law_1153 ?_
  refine z_iload C rfl dL_law_1154 ?_
  refine z_iconst (v := 1) C (by decide +kernel) dL_law_1156 ?_
  refine z_iadd (v := nI (4 * a + 1)) C (cv_add (4 * a) 1) dL_law_1157 ?_
  refine z_sld C hX hbl hbA (4 * a + 1) rfl (by omega) (by omega) dL_law_1158 ?_
  refine z_callV (st := []) C K ok_L_161 hM enc_M (by decide) rfl rfl ⟨by show f + 1 ≤ 11; omega, by show 8 + (3 + 11) + w ≤ 396; omega⟩ hc (by simp) dL_law_1159 rfl rfl ?_
  refine z_istore (ls' := lawL b n0 (nI (4 * a)) (some (.int k)) (some (.int r))) C (by decide) rfl dL_law_1162 ?_
  exact law_tail C K h0 ho hc dL_law_1164 dL_law_1165 dL_law_1168 dL_law_1170 dL_law_1175 dL_law_1177 dL_law_1180 dL_law_1181 dL_law_1182 dL_law_1183 dL_law_1185 dL_law_1186 dL_law_1187 dL_law_1192 (by decide) (kk κ' μ' o' hRO)
set_option maxHeartbeats 4000000 in
theorem law_alarm (hfl : l.stackTraces = false) (C : Cx p l s m args meth c D n0 RL cL_law 7) (K : KX D n0 s s.heap) {b L : Nat} {xs : Nat → Int32} (hX : va_X b L xs s s.heap) (hbl : b < s.heap.size) (hbA : ¬ n0 ≤ b) (hL : L ≤ 256) {a : Nat} (ha : 4 * a + 4 ≤ L) {κ μ : KH} {o : Int64} (hR : RO κ μ a) (hc0 : cells ≤ room_1.cells ∧ slots ≤ room_1.slots) (hc : cells + 1 ≤ room_1.cells ∧ slots + 6 ≤ room_1.slots)
    (kk : ∀ (κ' μ' : KH) (o' : Int64), RO κ' μ' (a + 1) → ZZ p l e room_1 s m args below meth c D n0 127 7 (cells + 1) (slots + 6) Q (κ', μ', o') 1715 (lawL b n0 (nI (4 * a)) none none) []) : ZZ p l e room_1 s m args below meth c D n0 127 7 cells slots Q (κ, μ, o) 1195 (lawL b n0 (nI (4 * a)) none none) [] := by
  obtain ⟨n, q, h⟩ := hR
  obtain ⟨k, r, κ', μ', o', f, w, hf, hw, hW, hM, h0, ho, hRO⟩ := s_alarm hfl D n0 h (by omega) o (xs (4 * a + 1))
  refine z_aload_n C rfl dL_law_1195 ?_
  refine z_aload_n C rfl dL_law_1196 ?_
  refine z_iload C rfl dL_law_1197 ?_
  refine z_iconst (v := 1) C (by decide +kernel) dL_law_1199 ?_
  refine z_iadd (v := nI (4 * a + 1)) C (cv_add (4 * a) 1) dL_law_1200 ?_
  refine z_sld C hX hbl hbA (4 * a + 1) rfl (by omega) (by omega) dL_law_1201 ?_
  refine z_aload_n C rfl dL_law_1202 ?_
  refine z_callHW (st := []) (n := 3) C K hW wl_658 wl_659 wl_45 wl_660 (by decide +kernel) rfl ⟨Nat.le_of_ble_eq_true rfl, Nat.le_of_ble_eq_true rfl⟩ hc (by simp) dL_law_1203 rfl ?_
  refine z_istore (ls' := lawL b n0 (nI (4 * a)) (some (.int k)) none) C (by decide) rfl dL_law_1206 ?_
  refine z_aload_n C rfl dL_law_1208 ?_
  refine z_aload_n C rfl dL_law_1209 ?_
  refine z_iload C rfl dL_law_1210 ?_
  refine z_iconst (v := 1) C (by decide +kernel) dL_law_1212 ?_
  refine z_iadd (v := nI (4 * a + 1)) C (cv_add (4 * a) 1) dL_law_1213 ?_
  refine z_sld C hX hbl hbA (4 * a + 1) rfl (by omega) (by omega) dL_law_1214 ?_
  refine z_callV (st := []) C K ok_L_164 hM enc_M (by decide) rfl rfl ⟨by show f + 1 ≤ 11; omega, by show 8 + (3 + 11) + w ≤ 396; omega⟩ hc (by simp) dL_law_1215 rfl rfl ?_
  refine z_istore (ls' := lawL b n0 (nI (4 * a)) (some (.int k)) (some (.int r))) C (by decide) rfl dL_law_1218 ?_
  exact law_tail C K h0 ho hc dL_law_1220 dL_law_1221 dL_law_1224 dL_law_1226 dL_law_1231 dL_law_1233 dL_law_1236 dL_law_1237 dL_law_1238 dL_law_1239 dL_law_1241 dL_law_1242 dL_law_1243 dL_law_1248 (by decide) (kk κ' μ' o' hRO)
set_option maxHeartbeats 4000000 in
theorem law_tick (hfl : l.stackTraces = false) (C : Cx p l s m args meth c D n0 RL cL_law 7) (K : KX D n0 s s.heap) {b L : Nat} {xs : Nat → Int32} (hX : va_X b L xs s s.heap) (hbl : b < s.heap.size) (hbA : ¬ n0 ≤ b) (hL : L ≤ 256) {a : Nat} (ha : 4 * a + 4 ≤ L) {κ μ : KH} {o : Int64} (hR : RO κ μ a) (hc0 : cells ≤ room_1.cells ∧ slots ≤ room_1.slots) (hc : cells + 1 ≤ room_1.cells ∧ slots + 6 ≤ room_1.slots)
    (kk : ∀ (κ' μ' : KH) (o' : Int64), RO κ' μ' (a + 1) → ZZ p l e room_1 s m args below meth c D n0 127 7 (cells + 1) (slots + 6) Q (κ', μ', o') 1715 (lawL b n0 (nI (4 * a)) none none) []) : ZZ p l e room_1 s m args below meth c D n0 127 7 cells slots Q (κ, μ, o) 1251 (lawL b n0 (nI (4 * a)) none none) [] := by
  obtain ⟨n, q, h⟩ := hR
  obtain ⟨k, r, κ', μ', o', f, w, hf, hw, hW, hM, h0, ho, hRO⟩ := s_tick hfl D n0 h (by omega) o (xs (4 * a + 1))
  refine z_aload_n C rfl dL_law_1251 ?_
  refine z_aload_n C rfl dL_law_1252 ?_
  refine z_iload C rfl dL_law_1253 ?_
  refine z_iconst (v := 1) C (by decide +kernel) dL_law_1255 ?_
  refine z_iadd (v := nI (4 * a + 1)) C (cv_add (4 * a) 1) dL_law_1256 ?_
  refine z_sld C hX hbl hbA (4 * a + 1) rfl (by omega) (by omega) dL_law_1257 ?_
  refine z_aload_n C rfl dL_law_1258 ?_
  refine z_callHW (st := []) (n := 3) C K hW wl_666 wl_667 wl_45 wl_668 (by decide +kernel) rfl ⟨Nat.le_of_ble_eq_true rfl, Nat.le_of_ble_eq_true rfl⟩ hc (by simp) dL_law_1259 rfl ?_
  refine z_istore (ls' := lawL b n0 (nI (4 * a)) (some (.int k)) none) C (by decide) rfl dL_law_1262 ?_
  refine z_aload_n C rfl dL_law_1264 ?_
  refine z_aload_n C rfl dL_law_1265 ?_
  refine z_iload C rfl dL_law_1266 ?_
  refine z_iconst (v := 1) C (by decide +kernel) dL_law_1268 ?_
  refine z_iadd (v := nI (4 * a + 1)) C (cv_add (4 * a) 1) dL_law_1269 ?_
  refine z_sld C hX hbl hbA (4 * a + 1) rfl (by omega) (by omega) dL_law_1270 ?_
  refine z_callV (st := []) C K ok_L_167 hM enc_M (by decide) rfl rfl ⟨by show f + 1 ≤ 11; omega, by show 8 + (3 + 11) + w ≤ 396; omega⟩ hc (by simp) dL_law_1271 rfl rfl ?_
  refine z_istore (ls' := lawL b n0 (nI (4 * a)) (some (.int k)) (some (.int r))) C (by decide) rfl dL_law_1274 ?_
  exact law_tail C K h0 ho hc dL_law_1276 dL_law_1277 dL_law_1280 dL_law_1282 dL_law_1287 dL_law_1289 dL_law_1292 dL_law_1293 dL_law_1294 dL_law_1295 dL_law_1297 dL_law_1298 dL_law_1299 dL_law_1304 (by decide) (kk κ' μ' o' hRO)
set_option maxHeartbeats 4000000 in
theorem law_map (hfl : l.stackTraces = false) (C : Cx p l s m args meth c D n0 RL cL_law 7) (K : KX D n0 s s.heap) {b L : Nat} {xs : Nat → Int32} (hX : va_X b L xs s s.heap) (hbl : b < s.heap.size) (hbA : ¬ n0 ≤ b) (hL : L ≤ 256) {a : Nat} (ha : 4 * a + 4 ≤ L) {κ μ : KH} {o : Int64} (hR : RO κ μ a) (hc0 : cells ≤ room_1.cells ∧ slots ≤ room_1.slots) (hc : cells + 1 ≤ room_1.cells ∧ slots + 6 ≤ room_1.slots)
    (kk : ∀ (κ' μ' : KH) (o' : Int64), RO κ' μ' (a + 1) → ZZ p l e room_1 s m args below meth c D n0 127 7 (cells + 1) (slots + 6) Q (κ', μ', o') 1715 (lawL b n0 (nI (4 * a)) none none) []) : ZZ p l e room_1 s m args below meth c D n0 127 7 cells slots Q (κ, μ, o) 1307 (lawL b n0 (nI (4 * a)) none none) [] := by
  obtain ⟨n, q, h⟩ := hR
  obtain ⟨k, r, κ', μ', o', f, w, hf, hw, hW, hM, h0, ho, hRO⟩ := s_map hfl D n0 h (by omega) o (xs (4 * a + 1)) (xs (4 * a + 2)) (xs (4 * a + 3))
  refine z_aload_n C rfl dL_law_1307 ?_
  refine z_aload_n C rfl dL_law_1308 ?_
  refine z_iload C rfl dL_law_1309 ?_
  refine z_iconst (v := 1) C (by decide +kernel) dL_law_1311 ?_
  refine z_iadd (v := nI (4 * a + 1)) C (cv_add (4 * a) 1) dL_law_1312 ?_
  refine z_sld C hX hbl hbA (4 * a + 1) rfl (by omega) (by omega) dL_law_1313 ?_
  refine z_aload_n C rfl dL_law_1314 ?_
  refine z_iload C rfl dL_law_1315 ?_
  refine z_iconst (v := 2) C (by decide +kernel) dL_law_1317 ?_
  refine z_iadd (v := nI (4 * a + 2)) C (cv_add (4 * a) 2) dL_law_1318 ?_
  refine z_sld C hX hbl hbA (4 * a + 2) rfl (by omega) (by omega) dL_law_1319 ?_
  refine z_aload_n C rfl dL_law_1320 ?_
  refine z_iload C rfl dL_law_1321 ?_
  refine z_iconst (v := 3) C (by decide +kernel) dL_law_1323 ?_
  refine z_iadd (v := nI (4 * a + 3)) C (cv_add (4 * a) 3) dL_law_1324 ?_
  refine z_sld C hX hbl hbA (4 * a + 3) rfl (by omega) (by omega) dL_law_1325 ?_
  refine z_aload_n C rfl dL_law_1326 ?_
  refine z_callHW (st := []) (n := 5) C K hW wl_674 wl_675 wl_45 wl_676 (by decide +kernel) rfl ⟨Nat.le_of_ble_eq_true rfl, Nat.le_of_ble_eq_true rfl⟩ hc (by simp) dL_law_1327 rfl ?_
  refine z_istore (ls' := lawL b n0 (nI (4 * a)) (some (.int k)) none) C (by decide) rfl dL_law_1330 ?_
  refine z_aload_n C rfl dL_law_1332 ?_
  refine z_aload_n C rfl dL_law_1333 ?_
  refine z_iload C rfl dL_law_1334 ?_
  refine z_iconst (v := 1) C (by decide +kernel) dL_law_1336 ?_
  refine z_iadd (v := nI (4 * a + 1)) C (cv_add (4 * a) 1) dL_law_1337 ?_
  refine z_sld C hX hbl hbA (4 * a + 1) rfl (by omega) (by omega) dL_law_1338 ?_
  refine z_aload_n C rfl dL_law_1339 ?_
  refine z_iload C rfl dL_law_1340 ?_
  refine z_iconst (v := 2) C (by decide +kernel) dL_law_1342 ?_
  refine z_iadd (v := nI (4 * a + 2)) C (cv_add (4 * a) 2) dL_law_1343 ?_
  refine z_sld C hX hbl hbA (4 * a + 2) rfl (by omega) (by omega) dL_law_1344 ?_
  refine z_aload_n C rfl dL_law_1345 ?_
  refine z_iload C rfl dL_law_1346 ?_
  refine z_iconst (v := 3) C (by decide +kernel) dL_law_1348 ?_
  refine z_iadd (v := nI (4 * a + 3)) C (cv_add (4 * a) 3) dL_law_1349 ?_
  refine z_sld C hX hbl hbA (4 * a + 3) rfl (by omega) (by omega) dL_law_1350 ?_
  refine z_callV (st := []) C K ok_L_170 hM enc_M (by decide) rfl rfl ⟨by show f + 1 ≤ 11; omega, by show 8 + (4 + 11) + w ≤ 396; omega⟩ hc (by simp) dL_law_1351 rfl rfl ?_
  refine z_istore (ls' := lawL b n0 (nI (4 * a)) (some (.int k)) (some (.int r))) C (by decide) rfl dL_law_1354 ?_
  exact law_tail C K h0 ho hc dL_law_1356 dL_law_1357 dL_law_1360 dL_law_1362 dL_law_1367 dL_law_1369 dL_law_1372 dL_law_1373 dL_law_1374 dL_law_1375 dL_law_1377 dL_law_1378 dL_law_1379 dL_law_1384 (by decide) (kk κ' μ' o' hRO)
set_option maxHeartbeats 4000000 in
theorem law_volume (hfl : l.stackTraces = false) (C : Cx p l s m args meth c D n0 RL cL_law 7) (K : KX D n0 s s.heap) {b L : Nat} {xs : Nat → Int32} (hX : va_X b L xs s s.heap) (hbl : b < s.heap.size) (hbA : ¬ n0 ≤ b) (hL : L ≤ 256) {a : Nat} (ha : 4 * a + 4 ≤ L) {κ μ : KH} {o : Int64} (hR : RO κ μ a) (hc0 : cells ≤ room_1.cells ∧ slots ≤ room_1.slots) (hc : cells + 1 ≤ room_1.cells ∧ slots + 6 ≤ room_1.slots)
    (kk : ∀ (κ' μ' : KH) (o' : Int64), RO κ' μ' (a + 1) → ZZ p l e room_1 s m args below meth c D n0 127 7 (cells + 1) (slots + 6) Q (κ', μ', o') 1715 (lawL b n0 (nI (4 * a)) none none) []) : ZZ p l e room_1 s m args below meth c D n0 127 7 cells slots Q (κ, μ, o) 1387 (lawL b n0 (nI (4 * a)) none none) [] := by
  obtain ⟨n, q, h⟩ := hR
  obtain ⟨k, r, κ', μ', o', f, w, hf, hw, hW, hM, h0, ho, hRO⟩ := s_volume hfl D n0 h (by omega) o (xs (4 * a + 1)) (xs (4 * a + 2))
  refine z_aload_n C rfl dL_law_1387 ?_
  refine z_aload_n C rfl dL_law_1388 ?_
  refine z_iload C rfl dL_law_1389 ?_
  refine z_iconst (v := 1) C (by decide +kernel) dL_law_1391 ?_
  refine z_iadd (v := nI (4 * a + 1)) C (cv_add (4 * a) 1) dL_law_1392 ?_
  refine z_sld C hX hbl hbA (4 * a + 1) rfl (by omega) (by omega) dL_law_1393 ?_
  refine z_aload_n C rfl dL_law_1394 ?_
  refine z_iload C rfl dL_law_1395 ?_
  refine z_iconst (v := 2) C (by decide +kernel) dL_law_1397 ?_
  refine z_iadd (v := nI (4 * a + 2)) C (cv_add (4 * a) 2) dL_law_1398 ?_
  refine z_sld C hX hbl hbA (4 * a + 2) rfl (by omega) (by omega) dL_law_1399 ?_
  refine z_aload_n C rfl dL_law_1400 ?_
  refine z_callHW (st := []) (n := 4) C K hW wl_682 wl_683 wl_45 wl_684 (by decide +kernel) rfl ⟨Nat.le_of_ble_eq_true rfl, Nat.le_of_ble_eq_true rfl⟩ hc (by simp) dL_law_1401 rfl ?_
  refine z_istore (ls' := lawL b n0 (nI (4 * a)) (some (.int k)) none) C (by decide) rfl dL_law_1404 ?_
  refine z_aload_n C rfl dL_law_1406 ?_
  refine z_aload_n C rfl dL_law_1407 ?_
  refine z_iload C rfl dL_law_1408 ?_
  refine z_iconst (v := 1) C (by decide +kernel) dL_law_1410 ?_
  refine z_iadd (v := nI (4 * a + 1)) C (cv_add (4 * a) 1) dL_law_1411 ?_
  refine z_sld C hX hbl hbA (4 * a + 1) rfl (by omega) (by omega) dL_law_1412 ?_
  refine z_aload_n C rfl dL_law_1413 ?_
  refine z_iload C rfl dL_law_1414 ?_
  refine z_iconst (v := 2) C (by decide +kernel) dL_law_1416 ?_
  refine z_iadd (v := nI (4 * a + 2)) C (cv_add (4 * a) 2) dL_law_1417 ?_
  refine z_sld C hX hbl hbA (4 * a + 2) rfl (by omega) (by omega) dL_law_1418 ?_
  refine z_callV (st := []) C K ok_L_173 hM enc_M (by decide) rfl rfl ⟨by show f + 1 ≤ 11; omega, by show 8 + (8 + 11) + w ≤ 396; omega⟩ hc (by simp) dL_law_1419 rfl rfl ?_
  refine z_istore (ls' := lawL b n0 (nI (4 * a)) (some (.int k)) (some (.int r))) C (by decide) rfl dL_law_1422 ?_
  exact law_tail C K h0 ho hc dL_law_1424 dL_law_1425 dL_law_1428 dL_law_1430 dL_law_1435 dL_law_1437 dL_law_1440 dL_law_1441 dL_law_1442 dL_law_1443 dL_law_1445 dL_law_1446 dL_law_1447 dL_law_1452 (by decide) (kk κ' μ' o' hRO)
set_option maxHeartbeats 4000000 in
theorem law_differ (hfl : l.stackTraces = false) (C : Cx p l s m args meth c D n0 RL cL_law 7) (K : KX D n0 s s.heap) {b L : Nat} {xs : Nat → Int32} (hX : va_X b L xs s s.heap) (hbl : b < s.heap.size) (hbA : ¬ n0 ≤ b) (hL : L ≤ 256) {a : Nat} (ha : 4 * a + 4 ≤ L) {κ μ : KH} {o : Int64} (hR : RO κ μ a) (hc0 : cells ≤ room_1.cells ∧ slots ≤ room_1.slots) (hc : cells + 1 ≤ room_1.cells ∧ slots + 6 ≤ room_1.slots)
    (kk : ∀ (κ' μ' : KH) (o' : Int64), RO κ' μ' (a + 1) → ZZ p l e room_1 s m args below meth c D n0 127 7 (cells + 1) (slots + 6) Q (κ', μ', o') 1715 (lawL b n0 (nI (4 * a)) none none) []) : ZZ p l e room_1 s m args below meth c D n0 127 7 cells slots Q (κ, μ, o) 1455 (lawL b n0 (nI (4 * a)) none none) [] := by
  obtain ⟨n, q, h⟩ := hR
  obtain ⟨k, r, κ', μ', o', f, w, hf, hw, hW, hM, h0, ho, hRO⟩ := s_differ hfl D n0 h (by omega) o (xs (4 * a + 1)) (xs (4 * a + 2)) (xs (4 * a + 3))
  refine z_aload_n C rfl dL_law_1455 ?_
  refine z_aload_n C rfl dL_law_1456 ?_
  refine z_iload C rfl dL_law_1457 ?_
  refine z_iconst (v := 1) C (by decide +kernel) dL_law_1459 ?_
  refine z_iadd (v := nI (4 * a + 1)) C (cv_add (4 * a) 1) dL_law_1460 ?_
  refine z_sld C hX hbl hbA (4 * a + 1) rfl (by omega) (by omega) dL_law_1461 ?_
  refine z_aload_n C rfl dL_law_1462 ?_
  refine z_iload C rfl dL_law_1463 ?_
  refine z_iconst (v := 2) C (by decide +kernel) dL_law_1465 ?_
  refine z_iadd (v := nI (4 * a + 2)) C (cv_add (4 * a) 2) dL_law_1466 ?_
  refine z_sld C hX hbl hbA (4 * a + 2) rfl (by omega) (by omega) dL_law_1467 ?_
  refine z_aload_n C rfl dL_law_1468 ?_
  refine z_iload C rfl dL_law_1469 ?_
  refine z_iconst (v := 3) C (by decide +kernel) dL_law_1471 ?_
  refine z_iadd (v := nI (4 * a + 3)) C (cv_add (4 * a) 3) dL_law_1472 ?_
  refine z_sld C hX hbl hbA (4 * a + 3) rfl (by omega) (by omega) dL_law_1473 ?_
  refine z_aload_n C rfl dL_law_1474 ?_
  refine z_callHW (st := []) (n := 5) C K hW wl_702 wl_703 wl_45 wl_704 (by decide +kernel) rfl ⟨Nat.le_of_ble_eq_true rfl, Nat.le_of_ble_eq_true rfl⟩ hc (by simp) dL_law_1475 rfl ?_
  refine z_istore (ls' := lawL b n0 (nI (4 * a)) (some (.int k)) none) C (by decide) rfl dL_law_1478 ?_
  refine z_aload_n C rfl dL_law_1480 ?_
  refine z_aload_n C rfl dL_law_1481 ?_
  refine z_iload C rfl dL_law_1482 ?_
  refine z_iconst (v := 1) C (by decide +kernel) dL_law_1484 ?_
  refine z_iadd (v := nI (4 * a + 1)) C (cv_add (4 * a) 1) dL_law_1485 ?_
  refine z_sld C hX hbl hbA (4 * a + 1) rfl (by omega) (by omega) dL_law_1486 ?_
  refine z_aload_n C rfl dL_law_1487 ?_
  refine z_iload C rfl dL_law_1488 ?_
  refine z_iconst (v := 2) C (by decide +kernel) dL_law_1490 ?_
  refine z_iadd (v := nI (4 * a + 2)) C (cv_add (4 * a) 2) dL_law_1491 ?_
  refine z_sld C hX hbl hbA (4 * a + 2) rfl (by omega) (by omega) dL_law_1492 ?_
  refine z_aload_n C rfl dL_law_1493 ?_
  refine z_iload C rfl dL_law_1494 ?_
  refine z_iconst (v := 3) C (by decide +kernel) dL_law_1496 ?_
  refine z_iadd (v := nI (4 * a + 3)) C (cv_add (4 * a) 3) dL_law_1497 ?_
  refine z_sld C hX hbl hbA (4 * a + 3) rfl (by omega) (by omega) dL_law_1498 ?_
  refine z_callV (st := []) C K ok_L_176 hM enc_M (by decide) rfl rfl ⟨by show f + 1 ≤ 11; omega, by show 8 + (8 + 11) + w ≤ 396; omega⟩ hc (by simp) dL_law_1499 rfl rfl ?_
  refine z_istore (ls' := lawL b n0 (nI (4 * a)) (some (.int k)) (some (.int r))) C (by decide) rfl dL_law_1502 ?_
  exact law_tail C K h0 ho hc dL_law_1504 dL_law_1505 dL_law_1508 dL_law_1510 dL_law_1515 dL_law_1517 dL_law_1520 dL_law_1521 dL_law_1522 dL_law_1523 dL_law_1525 dL_law_1526 dL_law_1527 dL_law_1532 (by decide) (kk κ' μ' o' hRO)
set_option maxHeartbeats 4000000 in
theorem law_users (hfl : l.stackTraces = false) (C : Cx p l s m args meth c D n0 RL cL_law 7) (K : KX D n0 s s.heap) {b L : Nat} {xs : Nat → Int32} (hX : va_X b L xs s s.heap) (hbl : b < s.heap.size) (hbA : ¬ n0 ≤ b) (hL : L ≤ 256) {a : Nat} (ha : 4 * a + 4 ≤ L) {κ μ : KH} {o : Int64} (hR : RO κ μ a) (hc0 : cells ≤ room_1.cells ∧ slots ≤ room_1.slots) (hc : cells + 1 ≤ room_1.cells ∧ slots + 6 ≤ room_1.slots)
    (kk : ∀ (κ' μ' : KH) (o' : Int64), RO κ' μ' (a + 1) → ZZ p l e room_1 s m args below meth c D n0 127 7 (cells + 1) (slots + 6) Q (κ', μ', o') 1715 (lawL b n0 (nI (4 * a)) none none) []) : ZZ p l e room_1 s m args below meth c D n0 127 7 cells slots Q (κ, μ, o) 1535 (lawL b n0 (nI (4 * a)) none none) [] := by
  obtain ⟨n, q, h⟩ := hR
  obtain ⟨k, r, κ', μ', o', f, w, hf, hw, hW, hM, h0, ho, hRO⟩ := s_users hfl D n0 h (by omega) o (xs (4 * a + 1))
  refine z_aload_n C rfl dL_law_1535 ?_
  refine z_aload_n C rfl dL_law_1536 ?_
  refine z_iload C rfl dL_law_1537 ?_
  refine z_iconst (v := 1) C (by decide +kernel) dL_law_1539 ?_
  refine z_iadd (v := nI (4 * a + 1)) C (cv_add (4 * a) 1) dL_law_1540 ?_
  refine z_sld C hX hbl hbA (4 * a + 1) rfl (by omega) (by omega) dL_law_1541 ?_
  refine z_aload_n C rfl dL_law_1542 ?_
  refine z_callHW (st := []) (n := 3) C K hW wl_721 wl_722 wl_45 wl_723 (by decide +kernel) rfl ⟨Nat.le_of_ble_eq_true rfl, Nat.le_of_ble_eq_true rfl⟩ hc (by simp) dL_law_1543 rfl ?_
  refine z_istore (ls' := lawL b n0 (nI (4 * a)) (some (.int k)) none) C (by decide) rfl dL_law_1546 ?_
  refine z_aload_n C rfl dL_law_1548 ?_
  refine z_aload_n C rfl dL_law_1549 ?_
  refine z_iload C rfl dL_law_1550 ?_
  refine z_iconst (v := 1) C (by decide +kernel) dL_law_1552 ?_
  refine z_iadd (v := nI (4 * a + 1)) C (cv_add (4 * a) 1) dL_law_1553 ?_
  refine z_sld C hX hbl hbA (4 * a + 1) rfl (by omega) (by omega) dL_law_1554 ?_
  refine z_callV (st := []) C K ok_L_179 hM enc_M (by decide) rfl rfl ⟨by show f + 1 ≤ 11; omega, by show 8 + (2 + 11) + w ≤ 396; omega⟩ hc (by simp) dL_law_1555 rfl rfl ?_
  refine z_istore (ls' := lawL b n0 (nI (4 * a)) (some (.int k)) (some (.int r))) C (by decide) rfl dL_law_1558 ?_
  exact law_tail C K h0 ho hc dL_law_1560 dL_law_1561 dL_law_1564 dL_law_1566 dL_law_1571 dL_law_1573 dL_law_1576 dL_law_1577 dL_law_1578 dL_law_1579 dL_law_1581 dL_law_1582 dL_law_1583 dL_law_1588 (by decide) (kk κ' μ' o' hRO)
set_option maxHeartbeats 4000000 in
theorem law_user (hfl : l.stackTraces = false) (C : Cx p l s m args meth c D n0 RL cL_law 7) (K : KX D n0 s s.heap) {b L : Nat} {xs : Nat → Int32} (hX : va_X b L xs s s.heap) (hbl : b < s.heap.size) (hbA : ¬ n0 ≤ b) (hL : L ≤ 256) {a : Nat} (ha : 4 * a + 4 ≤ L) {κ μ : KH} {o : Int64} (hR : RO κ μ a) (hc0 : cells ≤ room_1.cells ∧ slots ≤ room_1.slots) (hc : cells + 1 ≤ room_1.cells ∧ slots + 6 ≤ room_1.slots)
    (kk : ∀ (κ' μ' : KH) (o' : Int64), RO κ' μ' (a + 1) → ZZ p l e room_1 s m args below meth c D n0 127 7 (cells + 1) (slots + 6) Q (κ', μ', o') 1715 (lawL b n0 (nI (4 * a)) none none) []) : ZZ p l e room_1 s m args below meth c D n0 127 7 cells slots Q (κ, μ, o) 1591 (lawL b n0 (nI (4 * a)) none none) [] := by
  obtain ⟨n, q, h⟩ := hR
  obtain ⟨k, r, κ', μ', o', f, w, hf, hw, hW, hM, h0, ho, hRO⟩ := s_user hfl D n0 h (by omega) o (xs (4 * a + 1)) (xs (4 * a + 2))
  refine z_aload_n C rfl dL_law_1591 ?_
  refine z_aload_n C rfl dL_law_1592 ?_
  refine z_iload C rfl dL_law_1593 ?_
  refine z_iconst (v := 1) C (by decide +kernel) dL_law_1595 ?_
  refine z_iadd (v := nI (4 * a + 1)) C (cv_add (4 * a) 1) dL_law_1596 ?_
  refine z_sld C hX hbl hbA (4 * a + 1) rfl (by omega) (by omega) dL_law_1597 ?_
  refine z_aload_n C rfl dL_law_1598 ?_
  refine z_iload C rfl dL_law_1599 ?_
  refine z_iconst (v := 2) C (by decide +kernel) dL_law_1601 ?_
  refine z_iadd (v := nI (4 * a + 2)) C (cv_add (4 * a) 2) dL_law_1602 ?_
  refine z_sld C hX hbl hbA (4 * a + 2) rfl (by omega) (by omega) dL_law_1603 ?_
  refine z_aload_n C rfl dL_law_1604 ?_
  refine z_callHW (st := []) (n := 4) C K hW wl_734 wl_735 wl_45 wl_736 (by decide +kernel) rfl ⟨Nat.le_of_ble_eq_true rfl, Nat.le_of_ble_eq_true rfl⟩ hc (by simp) dL_law_1605 rfl ?_
  refine z_istore (ls' := lawL b n0 (nI (4 * a)) (some (.int k)) none) C (by decide) rfl dL_law_1608 ?_
  refine z_aload_n C rfl dL_law_1610 ?_
  refine z_aload_n C rfl dL_law_1611 ?_
  refine z_iload C rfl dL_law_1612 ?_
  refine z_iconst (v := 1) C (by decide +kernel) dL_law_1614 ?_
  refine z_iadd (v := nI (4 * a + 1)) C (cv_add (4 * a) 1) dL_law_1615 ?_
  refine z_sld C hX hbl hbA (4 * a + 1) rfl (by omega) (by omega) dL_law_1616 ?_
  refine z_aload_n C rfl dL_law_1617 ?_
  refine z_iload C rfl dL_law_1618 ?_
  refine z_iconst (v := 2) C (by decide +kernel) dL_law_1620 ?_
  refine z_iadd (v := nI (4 * a + 2)) C (cv_add (4 * a) 2) dL_law_1621 ?_
  refine z_sld C hX hbl hbA (4 * a + 2) rfl (by omega) (by omega) dL_law_1622 ?_
  refine z_callV (st := []) C K ok_L_182 hM enc_M (by decide) rfl rfl ⟨by show f + 1 ≤ 11; omega, by show 8 + (6 + 11) + w ≤ 396; omega⟩ hc (by simp) dL_law_1623 rfl rfl ?_
  refine z_istore (ls' := lawL b n0 (nI (4 * a)) (some (.int k)) (some (.int r))) C (by decide) rfl dL_law_1626 ?_
  exact law_tail C K h0 ho hc dL_law_1628 dL_law_1629 dL_law_1632 dL_law_1634 dL_law_1639 dL_law_1641 dL_law_1644 dL_law_1645 dL_law_1646 dL_law_1647 dL_law_1649 dL_law_1650 dL_law_1651 dL_law_1656 (by decide) (kk κ' μ' o' hRO)
set_option maxHeartbeats 4000000 in
theorem law_told (hfl : l.stackTraces = false) (C : Cx p l s m args meth c D n0 RL cL_law 7) (K : KX D n0 s s.heap) {b L : Nat} {xs : Nat → Int32} (hX : va_X b L xs s s.heap) (hbl : b < s.heap.size) (hbA : ¬ n0 ≤ b) (hL : L ≤ 256) {a : Nat} (ha : 4 * a + 4 ≤ L) {κ μ : KH} {o : Int64} (hR : RO κ μ a) (hc0 : cells ≤ room_1.cells ∧ slots ≤ room_1.slots) (hc : cells + 1 ≤ room_1.cells ∧ slots + 6 ≤ room_1.slots)
    (kk : ∀ (κ' μ' : KH) (o' : Int64), RO κ' μ' (a + 1) → ZZ p l e room_1 s m args below meth c D n0 127 7 (cells + 1) (slots + 6) Q (κ', μ', o') 1715 (lawL b n0 (nI (4 * a)) none none) []) : ZZ p l e room_1 s m args below meth c D n0 127 7 cells slots Q (κ, μ, o) 1659 (lawL b n0 (nI (4 * a)) none none) [] := by
  obtain ⟨n, q, h⟩ := hR
  obtain ⟨k, r, κ', μ', o', f, w, hf, hw, hW, hM, h0, ho, hRO⟩ := s_told hfl D n0 h (by omega) o (xs (4 * a + 1))
  refine z_aload_n C rfl dL_law_1659 ?_
  refine z_aload_n C rfl dL_law_1660 ?_
  refine z_iload C rfl dL_law_1661 ?_
  refine z_iconst (v := 1) C (by decide +kernel) dL_law_1663 ?_
  refine z_iadd (v := nI (4 * a + 1)) C (cv_add (4 * a) 1) dL_law_1664 ?_
  refine z_sld C hX hbl hbA (4 * a + 1) rfl (by omega) (by omega) dL_law_1665 ?_
  refine z_aload_n C rfl dL_law_1666 ?_
  refine z_callHW (st := []) (n := 3) C K hW wl_745 wl_746 wl_45 wl_747 (by decide +kernel) rfl ⟨Nat.le_of_ble_eq_true rfl, Nat.le_of_ble_eq_true rfl⟩ hc (by simp) dL_law_1667 rfl ?_
  refine z_istore (ls' := lawL b n0 (nI (4 * a)) (some (.int k)) none) C (by decide) rfl dL_law_1670 ?_
  refine z_aload_n C rfl dL_law_1672 ?_
  refine z_aload_n C rfl dL_law_1673 ?_
  refine z_iload C rfl dL_law_1674 ?_
  refine z_iconst (v := 1) C (by decide +kernel) dL_law_1676 ?_
  refine z_iadd (v := nI (4 * a + 1)) C (cv_add (4 * a) 1) dL_law_1677 ?_
  refine z_sld C hX hbl hbA (4 * a + 1) rfl (by omega) (by omega) dL_law_1678 ?_
  refine z_callV (st := []) C K ok_L_185 hM enc_M (by decide) rfl rfl ⟨by show f + 1 ≤ 11; omega, by show 8 + (2 + 11) + w ≤ 396; omega⟩ hc (by simp) dL_law_1679 rfl rfl ?_
  refine z_istore (ls' := lawL b n0 (nI (4 * a)) (some (.int k)) (some (.int r))) C (by decide) rfl dL_law_1682 ?_
  exact law_tail C K h0 ho hc dL_law_1684 dL_law_1685 dL_law_1688 dL_law_1690 dL_law_1695 dL_law_1697 dL_law_1700 dL_law_1701 dL_law_1702 dL_law_1703 dL_law_1705 dL_law_1706 dL_law_1707 dL_law_1712 (by decide) (kk κ' μ' o' hRO)
end LAW2
