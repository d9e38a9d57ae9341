/-! making the objects: worlds of cells one behind the other -/
def wg (n0 N : Nat) (EE : Nat → va_E) : va_W := (List.range N).map (fun k => (n0 + k, EE k))
theorem wg_len {n0 N : Nat} {EE : Nat → va_E} : (wg n0 N EE).length = N := by simp [wg]
theorem wg_get {n0 N k : Nat} {EE : Nat → va_E} (h : k < N) : (wg n0 N EE)[k]? = some (n0 + k, EE k) := by
  simp [wg, List.getElem?_map, List.getElem?_range h]
theorem wg_at {n0 N k : Nat} {EE : Nat → va_E} {q : Nat × va_E} (h : (wg n0 N EE)[k]? = some q) : k < N ∧ q = (n0 + k, EE k) := by
  have hk : k < N := by have := (List.getElem?_eq_some_iff.mp h).1; rwa [wg_len] at this
  exact ⟨hk, Option.some.inj (h.symm.trans (wg_get hk))⟩
theorem wg_D {n0 N : Nat} {EE : Nat → va_E} : va_D (fun q => n0 ≤ q) (wg n0 N EE) := by
  refine ⟨fun i j p q hp hq h => ?_, fun k q hq => ?_⟩
  · obtain ⟨-, rfl⟩ := wg_at hp; obtain ⟨-, rfl⟩ := wg_at hq; dsimp only at h; omega
  · obtain ⟨-, rfl⟩ := wg_at hq; exact Nat.le_add_right _ _
def upE (EE : Nat → va_E) (k : Nat) (x : va_E) : Nat → va_E := fun j => if j = k then x else EE j
theorem upE_self {EE : Nat → va_E} {k : Nat} {x : va_E} : upE EE k x k = x := if_pos rfl
theorem upE_ne {EE : Nat → va_E} {k j : Nat} {x : va_E} (h : j ≠ k) : upE EE k x j = EE j := if_neg h
theorem wg_cg {n0 N : Nat} {EE FF : Nat → va_E} (h : ∀ j, j < N → EE j = FF j) : wg n0 N EE = wg n0 N FF := by
  apply List.ext_getElem?
  intro i
  by_cases hi : i < N
  · rw [wg_get hi, wg_get hi, h i hi]
  · rw [List.getElem?_eq_none (by rw [wg_len]; omega), List.getElem?_eq_none (by rw [wg_len]; omega)]
theorem wg_set {n0 N k : Nat} {EE : Nat → va_E} {x : va_E} : (wg n0 N EE).set k (n0 + k, x) = wg n0 N (upE EE k x) := by
  apply List.ext_getElem?
  intro i
  rw [List.getElem?_set, wg_len]
  by_cases h : k = i
  · subst h
    rw [if_pos rfl]
    by_cases hk : k < N
    · rw [if_pos hk, wg_get hk, upE_self]
    · rw [if_neg hk]; exact (List.getElem?_eq_none (by rw [wg_len]; omega)).symm
  · rw [if_neg h]
    by_cases hi : i < N
    · rw [wg_get hi, wg_get hi, upE_ne (fun q => h q.symm)]
    · rw [List.getElem?_eq_none (by rw [wg_len]; omega), List.getElem?_eq_none (by rw [wg_len]; omega)]
theorem wg_push {n0 N : Nat} {EE : Nat → va_E} {x : va_E} : wg n0 (N + 1) (upE EE N x) = wg n0 N EE ++ [(n0 + N, x)] := by
  have h : wg n0 (N + 1) (upE EE N x) = wg n0 N (upE EE N x) ++ [(n0 + N, upE EE N x N)] := by simp [wg, List.range_succ]
  rw [h, upE_self, wg_cg (EE := upE EE N x) (FF := EE) (fun j hj => upE_ne (by omega))]
/-- the last of a world, and what is behind it -/
theorem va_P_alloc {D : va_G} {n0 N : Nat} {EE : Nat → va_E} {x : va_E} {H H1 : Heap} (hP : va_P D vwCl (wg n0 N EE) H) (ho : ∀ q, q < H.size → H1[q]? = H[q]?) (hx : va_at D vwCl (n0 + N, x) H1) : va_P D vwCl (wg n0 (N + 1) (upE EE N x)) H1 := by
  rw [wg_push]
  refine (hP.kept (fun k q hk => ho q.1 ((hP k q hk).lt))).app (fun k q hk => ?_)
  have hz : k < 1 := (List.getElem?_eq_some_iff.mp hk).1
  rw [show k = 0 by omega] at hk
  cases hk
  exact hx
def ZE (p : Program) (l : Launch) (e : Env) (R : Room) (s : State) (m : MethodId) (args : Array Value) (below : List Frame) (meth : Method) (c : Code) (D : DD) (n0 N nL cells slots : Nat) (Q : State → Prop) (EE : Nat → va_E) (pc : Nat) (ls : List (Option Value)) (st : List Value) : Prop :=
  ∀ (H : Heap) (locs : List Loc) (lsA : Array Slot), va_P D.1 vwCl (wg n0 N EE) H → va_S (fun q => n0 ≤ q) s.heap H locs → lh lsA nL ls → W p l e R s m args below meth c H locs cells slots Q (F0 m pc lsA st)
section KROWS
variable {p : Program} {l : Launch} {e : Env} {R : Room} {s : State} {m : MethodId} {args : Array Value} {below : List Frame} {meth : Method} {c : Code} {D : DD} {n0 N nL cells slots : Nat} {Q : State → Prop} {own : String} {cc : ByteArray} {EE FF : Nat → va_E} {pc : Nat} {ls : List (Option Value)} {st : List Value}
theorem k_aload_n (C : Cx p l s m args meth c D n0 own cc nL) {i : Fin 4} {x : Nat} (hi : ls[(i : Nat)]? = some (some (.ref x))) (hd : decode cc pc = .ok (.aload_n i, 1)) (kk : ZE p l e R s m args below meth c D n0 N nL cells slots Q EE (pc + 1) ls (.ref x :: st)) : ZE p l e R s m args below meth c D n0 N nL cells slots Q EE pc ls (st) := fun H locs lsA hP hS hl => lv_aload_n C.1 C.2.1 hd rfl (hl.2.2 _ _ hi).1 (kk H locs lsA hP hS hl)
theorem k_aload (C : Cx p l s m args meth c D n0 own cc nL) {i : Nat} {x : Nat} (hi : ls[i]? = some (some (.ref x))) (hd : decode cc pc = .ok (.aload i, 2)) (kk : ZE p l e R s m args below meth c D n0 N nL cells slots Q EE (pc + 2) ls (.ref x :: st)) : ZE p l e R s m args below meth c D n0 N nL cells slots Q EE pc ls (st) := fun H locs lsA hP hS hl => lv_aload C.1 C.2.1 hd (hl.2.2 _ _ hi).1 (kk H locs lsA hP hS hl)
theorem k_iload_n (C : Cx p l s m args meth c D n0 own cc nL) {i : Fin 4} {x : Int32} (hi : ls[(i : Nat)]? = some (some (.int x))) (hd : decode cc pc = .ok (.iload_n i, 1)) (kk : ZE p l e R s m args below meth c D n0 N nL cells slots Q EE (pc + 1) ls (.int x :: st)) : ZE p l e R s m args below meth c D n0 N nL cells slots Q EE pc ls (st) := fun H locs lsA hP hS hl => lv_iload_n C.1 C.2.1 hd rfl (hl.2.2 _ _ hi).1 (kk H locs lsA hP hS hl)
theorem k_iconst (C : Cx p l s m args meth c D n0 own cc nL) {n : Int} {v : Int32} (hv : Int32.ofInt n = v) (hd : decode cc pc = .ok (.iconst n, 1)) (kk : ZE p l e R s m args below meth c D n0 N nL cells slots Q EE (pc + 1) ls (.int v :: st)) : ZE p l e R s m args below meth c D n0 N nL cells slots Q EE pc ls (st) := fun H locs lsA hP hS hl => lv_iconst C.1 C.2.1 hd hv (kk H locs lsA hP hS hl)
theorem k_bipush (C : Cx p l s m args meth c D n0 own cc nL) {n : Int} {v : Int32} (hv : (Int8.ofInt n).toInt32 = v) (hd : decode cc pc = .ok (.bipush n, 2)) (kk : ZE p l e R s m args below meth c D n0 N nL cells slots Q EE (pc + 2) ls (.int v :: st)) : ZE p l e R s m args below meth c D n0 N nL cells slots Q EE pc ls (st) := fun H locs lsA hP hS hl => lv_bipush C.1 C.2.1 hd hv (kk H locs lsA hP hS hl)
theorem k_sipush (C : Cx p l s m args meth c D n0 own cc nL) {n : Int} {v : Int32} (hv : (Int16.ofInt n).toInt32 = v) (hd : decode cc pc = .ok (.sipush n, 3)) (kk : ZE p l e R s m args below meth c D n0 N nL cells slots Q EE (pc + 3) ls (.int v :: st)) : ZE p l e R s m args below meth c D n0 N nL cells slots Q EE pc ls (st) := fun H locs lsA hP hS hl => lv_sipush C.1 C.2.1 hd hv (kk H locs lsA hP hS hl)
theorem k_dup (C : Cx p l s m args meth c D n0 own cc nL) {va : Value} (hva : va.category = 1) (hd : decode cc pc = .ok (.dup, 1)) (kk : ZE p l e R s m args below meth c D n0 N nL cells slots Q EE (pc + 1) ls (va :: va :: st)) : ZE p l e R s m args below meth c D n0 N nL cells slots Q EE pc ls (va :: st) := fun H locs lsA hP hS hl => lv_dup C.1 C.2.1 hd hva (kk H locs lsA hP hS hl)
theorem k_istore_n (C : Cx p l s m args meth c D n0 own cc nL) {i : Fin 4} {x : Int32} {ls' : List (Option Value)} (hn : (i : Nat) < nL) (hl' : ls.set i (some (.int x)) = ls') (hd : decode cc pc = .ok (.istore_n i, 1)) (kk : ZE p l e R s m args below meth c D n0 N nL cells slots Q EE (pc + 1) ls' (st)) : ZE p l e R s m args below meth c D n0 N nL cells slots Q EE pc ls (.int x :: st) := fun H locs lsA hP hS hl => lv_istore_n C.1 C.2.1 hd rfl hl.has hn rfl (fun lsB hB => kk H locs lsB hP hS (hl' ▸ hl.set rfl hB))
theorem k_goto (C : Cx p l s m args meth c D n0 own cc nL) {off : Int} {tgt : Nat} (hd : decode cc pc = .ok (.goto off, 3)) (ht : (pc : Int) + off = (tgt : Int)) (kk : ZE p l e R s m args below meth c D n0 N nL cells slots Q EE tgt ls st) : ZE p l e R s m args below meth c D n0 N nL cells slots Q EE pc ls st := fun H locs lsA hP hS hl => lv_goto C.1 C.2.1 hd ht (kk H locs lsA hP hS hl)
theorem k_icmp_ge (C : Cx p l s m args meth c D n0 own cc nL) {x y : Int32} {off : Int} {tgt : Nat} (hd : decode cc pc = .ok (.if_icmp .ge off, 3)) (ht : (pc : Int) + off = (tgt : Int)) (kt : y ≤ x → ZE p l e R s m args below meth c D n0 N nL cells slots Q EE tgt ls st) (kf : ¬ y ≤ x → ZE p l e R s m args below meth c D n0 N nL cells slots Q EE (pc + 3) ls st) : ZE p l e R s m args below meth c D n0 N nL cells slots Q EE pc ls (.int y :: .int x :: st) := fun H locs lsA hP hS hl => lv_icmp_ge C.1 C.2.1 hd ht (fun q => kt q H locs lsA hP hS hl) (fun q => kf q H locs lsA hP hS hl)
theorem k_astore_n (C : Cx p l s m args meth c D n0 own cc nL) {i : Fin 4} {x : Nat} {ls' : List (Option Value)} (hn : (i : Nat) < nL) (hl' : ls.set i (some (.ref x)) = ls') (hd : decode cc pc = .ok (.astore_n i, 1)) (kk : ZE p l e R s m args below meth c D n0 N nL cells slots Q EE (pc + 1) ls' (st)) : ZE p l e R s m args below meth c D n0 N nL cells slots Q EE pc ls (.ref x :: st) := fun H locs lsA hP hS hl => lv_astore_n C.1 C.2.1 hd rfl hl.has hn rfl (fun lsB hB => kk H locs lsB hP hS (hl' ▸ hl.set rfl hB))
theorem k_iinc (C : Cx p l s m args meth c D n0 own cc nL) {i : Nat} {n : Int} {x v : Int32} {ls' : List (Option Value)} (hi : ls[i]? = some (some (.int x))) (hv : x + Int32.ofInt n = v) (hn : i < nL) (hl' : ls.set i (some (.int v)) = ls') (hd : decode cc pc = .ok (.iinc i n, 3)) (kk : ZE p l e R s m args below meth c D n0 N nL cells slots Q EE (pc + 3) ls' st) : ZE p l e R s m args below meth c D n0 N nL cells slots Q EE pc ls st := by
  intro H locs lsA hP hS hl
  obtain ⟨k, hk⟩ := List.getElem?_of_mem (lhl_mem hi)
  exact lv_iinc C.1 C.2.1 hd hl.has hk hv hn rfl (fun lsB hB => kk H locs lsB hP hS (hl' ▸ hl.set rfl hB))
theorem k_widen {k n : Nat} (h1 : cells ≤ k) (h2 : slots ≤ n) (kk : ZE p l e R s m args below meth c D n0 N nL k n Q EE pc ls st) : ZE p l e R s m args below meth c D n0 N nL cells slots Q EE pc ls st := fun H locs lsA hP hS hl => W.widen h1 h2 (kk H locs lsA hP hS hl)
theorem k_fewer {ls' : List (Option Value)} (hl' : lle ls' ls) (kk : ZE p l e R s m args below meth c D n0 N nL cells slots Q EE pc ls' st) : ZE p l e R s m args below meth c D n0 N nL cells slots Q EE pc ls st := fun H locs lsA hP hS hl => kk H locs lsA hP hS (hl.fewer hl')
theorem k_cast {ls' : List (Option Value)} {st' : List Value} (h : ZE p l e R s m args below meth c D n0 N nL cells slots Q FF pc ls' st') (hE : ∀ j, j < N → EE j = FF j) (hl : lle ls' ls) (hst : st = st') : ZE p l e R s m args below meth c D n0 N nL cells slots Q EE pc ls st := by
  subst hst
  refine k_fewer hl (fun H locs lsA hP hS hl => h H locs lsA ?_ hS hl)
  rw [← wg_cg hE]; exact hP
/-- how large the heap is, by what has been made -/
theorem k_sz {T : State} {H : Heap} {locs : List Loc} {N0 : Nat} (hN : 0 < N) (h0 : s.heap.size = n0 + N0) (hc : N0 + cells = N) (hT : T.heap = H) (X : Stand p l e R s m args below meth c T locs cells slots) (hP : va_P D.1 vwCl (wg n0 N EE) H) : H.size = n0 + N := by
  have h1 : T.heap.size ≤ s.heap.size + cells := X.same.2.2.1
  have h2 := (hP (N - 1) _ (wg_get (by omega))).lt
  dsimp only at h2
  rw [hT, h0] at h1
  omega
theorem k_W {H : Heap} {locs : List Loc} {g : JFrame} (h : ∀ T : State, T.heap = H → Stand p l e R s m args below meth c T locs cells slots → W p l e R s m args below meth c H locs cells slots Q g) : W p l e R s m args below meth c H locs cells slots Q g := fun T hT X => h T hT X T hT X
theorem k_newa (C : Cx p l s m args meth c D n0 own cc nL) {N0 n' : Nat} {n : Int32} (hN : 0 < N) (h0 : s.heap.size = n0 + N0) (hcc : N0 + cells = N) (hn : n = nI n') (hn2 : n' ≤ 2000) (harr : Cond.arrayClass .int ∈ tb) (hc : cells + 1 ≤ R.cells) (hs : slots + n' ≤ R.slots) (hd : decode cc pc = .ok (.newarray .int, 2))
    (kk : ZE p l e R s m args below meth c D n0 (N + 1) nL (cells + 1) (slots + n') Q (upE EE N (.inl (D.2.1, n', .inl (fun _ => 0)))) (pc + 2) ls (.ref (n0 + N) :: st)) : ZE p l e R s m args below meth c D n0 N nL cells slots Q EE pc ls (.int n :: st) := by
  subst hn
  intro H locs lsA hP hS hl
  refine k_W (fun T hT X => ?_)
  have hz := k_sz hN h0 hcc hT X hP
  refine va_newaK C.1 C.2.1 (atype := .int) (C.2.2.2.2.1 _ harr) rfl hd rfl (nI_pos (by omega)) (nI_clamp (by omega)) (by show n' * 4 ≤ 536870912; omega) hc hs hz (fun H1 cA e1 z1 o1 hAr hNm => ?_)
  have hcA : cA = D.2.1 := Option.some.inj (hNm.symm.trans (C.2.2.2.2.2.1.2 0 _ rfl).2)
  subst hcA
  refine kk H1 locs lsA (va_P_alloc hP (fun q hq => o1 q (by omega)) ?_) ⟨Nat.le_trans hS.1 (by omega), fun x h1 h2 => (o1 x (by have := hS.1; omega)).trans (hS.2.1 x h1 h2), hS.2.2⟩ hl
  show H1[n0 + N]? = some (vp_cell D.2.1 (n', .inl (fun _ => 0)))
  rw [vp_cell_i]; exact e1
theorem k_newz (C : Cx p l s m args meth c D n0 own cc nL) {N0 n' : Nat} {n : Int32} (hN : 0 < N) (h0 : s.heap.size = n0 + N0) (hcc : N0 + cells = N) (hn : n = nI n') (hn2 : n' ≤ 2000) (harr : Cond.arrayClass .boolean ∈ tb) (hc : cells + 1 ≤ R.cells) (hs : slots + n' ≤ R.slots) (hd : decode cc pc = .ok (.newarray .boolean, 2))
    (kk : ZE p l e R s m args below meth c D n0 (N + 1) nL (cells + 1) (slots + n') Q (upE EE N (.inl (D.2.2.1, n', .inl (fun _ => 0)))) (pc + 2) ls (.ref (n0 + N) :: st)) : ZE p l e R s m args below meth c D n0 N nL cells slots Q EE pc ls (.int n :: st) := by
  subst hn
  intro H locs lsA hP hS hl
  refine k_W (fun T hT X => ?_)
  have hz := k_sz hN h0 hcc hT X hP
  refine va_newaK C.1 C.2.1 (atype := .boolean) (C.2.2.2.2.1 _ harr) rfl hd rfl (nI_pos (by omega)) (nI_clamp (by omega)) (by show n' * 1 ≤ 536870912; omega) hc hs hz (fun H1 cA e1 z1 o1 hAr hNm => ?_)
  have hcA : cA = D.2.2.1 := Option.some.inj (hNm.symm.trans (C.2.2.2.2.2.1.2 1 _ rfl).2)
  subst hcA
  refine kk H1 locs lsA (va_P_alloc hP (fun q hq => o1 q (by omega)) ?_) ⟨Nat.le_trans hS.1 (by omega), fun x h1 h2 => (o1 x (by have := hS.1; omega)).trans (hS.2.1 x h1 h2), hS.2.2⟩ hl
  show H1[n0 + N]? = some (vp_cell D.2.2.1 (n', .inl (fun _ => 0)))
  rw [vp_cell_i]; exact e1
theorem k_newl (C : Cx p l s m args meth c D n0 own cc nL) {N0 n' : Nat} {n : Int32} (hN : 0 < N) (h0 : s.heap.size = n0 + N0) (hcc : N0 + cells = N) (hn : n = nI n') (hn2 : n' ≤ 2000) (harr : Cond.arrayClass .long ∈ tb) (hc : cells + 1 ≤ R.cells) (hs : slots + n' ≤ R.slots) (hd : decode cc pc = .ok (.newarray .long, 2))
    (kk : ZE p l e R s m args below meth c D n0 (N + 1) nL (cells + 1) (slots + n') Q (upE EE N (.inl (D.2.2.2.2, n', .inr (.inl (fun _ => 0))))) (pc + 2) ls (.ref (n0 + N) :: st)) : ZE p l e R s m args below meth c D n0 N nL cells slots Q EE pc ls (.int n :: st) := by
  subst hn
  intro H locs lsA hP hS hl
  refine k_W (fun T hT X => ?_)
  have hz := k_sz hN h0 hcc hT X hP
  refine va_newaK C.1 C.2.1 (atype := .long) (C.2.2.2.2.1 _ harr) rfl hd rfl (nI_pos (by omega)) (nI_clamp (by omega)) (by show n' * 8 ≤ 536870912; omega) hc hs hz (fun H1 cA e1 z1 o1 hAr hNm => ?_)
  have hcA : cA = D.2.2.2.2 := Option.some.inj (hNm.symm.trans (C.2.2.2.2.2.1.2 3 _ rfl).2)
  subst hcA
  refine kk H1 locs lsA (va_P_alloc hP (fun q hq => o1 q (by omega)) ?_) ⟨Nat.le_trans hS.1 (by omega), fun x h1 h2 => (o1 x (by have := hS.1; omega)).trans (hS.2.1 x h1 h2), hS.2.2⟩ hl
  show H1[n0 + N]? = some (vp_cell D.2.2.2.2 (n', .inr (.inl (fun _ => 0))))
  exact e1
theorem k_newV (C : Cx p l s m args meth c D n0 own cc nL) {N0 idx : Nat} (hN : 0 < N) (h0 : s.heap.size = n0 + N0) (hcc : N0 + cells = N) (hlink : Cond.classLink own idx "ThinExtents$Volume" ∈ tb) (hao : va_AO "ThinExtents$Volume" s) (hc : cells + 1 ≤ R.cells) (hs : slots + 16 ≤ R.slots) (hd : decode cc pc = .ok (.anewarray idx, 3))
    (kk : ZE p l e R s m args below meth c D n0 (N + 1) nL (cells + 1) (slots + 16) Q (upE EE N (.inl (D.2.2.2.1, 16, .inr (.inr (.inr (.inr (fun _ => none))))))) (pc + 3) ls (.ref (n0 + N) :: st)) : ZE p l e R s m args below meth c D n0 N nL cells slots Q EE pc ls (.int 16 :: st) := by
  intro H locs lsA hP hS hl
  refine k_W (fun T hT X => ?_)
  have hz := k_sz hN h0 hcc hT X hP
  have h16 : (16 : Int32).toNatClampNeg = 16 := by decide +kernel
  refine W.anew C.1 C.2.1 C.2.2.2.1 (C.2.2.2.2.1 _ hlink) (va_AO.use hao) rfl hd rfl (by decide +kernel) (by rw [h16]; decide) hc (by rw [h16]; exact hs) (fun cA kA comp f1 f2 f3 f4 => ?_)
  rw [h16]
  generalize hH1 : H.push ({ cls := cA, slots := Array.replicate 16 .null, vm := .none } : Cell) = H1
  have z1 : H1.size = H.size + 1 := by rw [← hH1, Array.size_push]
  have e1 : H1[H.size]? = some (arrV cA 16 (fun _ => .null)) := by rw [← hH1, Array.getElem?_push_size, ← arrV_new]
  have o1 : ∀ q : Nat, q < H.size → H1[q]? = H[q]? := fun q hq => by rw [← hH1, Array.getElem?_push, if_neg (Nat.ne_of_lt hq)]
  have hcA : cA = D.2.2.2.1 := by
    obtain ⟨kA2, comp2, _, _, _, g4⟩ := (C.2.2.2.2.2.1.2 2 _ rfl).2
    exact Option.some.inj (f1.symm.trans g4)
  subst hcA
  rw [hz] at e1
  rw [show H.size = n0 + N from hz]
  refine kk H1 locs lsA (va_P_alloc hP o1 ?_) ⟨Nat.le_trans hS.1 (by omega), fun x h1 h2 => (o1 x (by have := hS.1; omega)).trans (hS.2.1 x h1 h2), hS.2.2⟩ hl
  show H1[n0 + N]? = some (vp_cell D.2.2.2.1 (16, .inr (.inr (.inr (.inr (fun _ => none))))))
  rw [vp_cell_q]; exact e1
theorem k_new (C : Cx p l s m args meth c D n0 own cc nL) {N0 idx ci NF : Nat} {Cn : String} {T : u_T} {fs : List Value} (ty : Nat → FieldType) (hN : 0 < N ∨ N = 0 ∧ N0 = 0) (h0 : s.heap.size = n0 + N0) (hcc : N0 + cells = N) (hin : ∀ w ∈ u_ws Cn T NF, w ∈ tb) (hty : ∀ k, k < NF → parseFieldDescriptor (T k).2.2.1 = some (ty k)) (hlink : Cond.classLink own idx Cn ∈ tb) (hinst : Cond.instantiable Cn NF ∈ tb) (hini : Cond.initialized Cn ∈ tb) (hci : vwCl[ci]? = some (Cn, T, NF)) (hfs : ∀ j, j < NF → defaultValue (ty j) = vp_V fs j) (hc : cells + 1 ≤ R.cells) (hs : slots + NF ≤ R.slots) (hd : decode cc pc = .ok (.new idx, 3))
    (kk : ZE p l e R s m args below meth c D n0 (N + 1) nL (cells + 1) (slots + NF) Q (upE EE N (.inr (ci, fs))) (pc + 3) ls (.ref (n0 + N) :: st)) : ZE p l e R s m args below meth c D n0 N nL cells slots Q EE pc ls st := by
  intro H locs lsA hP hS hl
  refine k_W (fun T' hT X => ?_)
  have hz : H.size = n0 + N := by
    rcases hN with hN | ⟨hN, hN0⟩
    · exact k_sz hN h0 hcc hT X hP
    · have h1 : T'.heap.size ≤ s.heap.size + cells := X.same.2.2.1
      have h2 := hS.1
      rw [hT] at h1
      omega
  have hKn := C.2.2.2.2.2.1.1 ci _ hci
  refine W.newcK C.1 C.2.1 C.2.2.2.1 (C.2.2.2.2.1 _ hlink) (C.2.2.2.2.1 _ hinst) (C.2.2.2.2.1 _ hini) rfl hd hc hs hKn.2.1 hz (fun H1 kC hkC e1 z1 o1 => ?_)
  refine kk H1 locs lsA (va_P_alloc hP (fun q hq => o1 q (by omega)) ?_) ⟨Nat.le_trans hS.1 (by omega), fun x h1 h2 => (o1 x (by have := hS.1; omega)).trans (hS.2.1 x h1 h2), hS.2.2⟩ hl
  exact ⟨_, hci, (u_born ty C.2.2.2.2.1 hin hKn hkC e1 hty).to hfs⟩
theorem k_objI (C : Cx p l s m args meth c D n0 own cc nL) {idx : Nat} {a : Nat} (hlink : Cond.methodLink own idx Lib.objectInit ∈ tb) (hinst : Cond.instanceMethod Lib.objectInit ∈ tb) (hcode : Cond.code Lib.objectInit ⟨#[0xb1]⟩ 1 none ∈ tb) (hR : 1 ≤ R.frames ∧ 12 ≤ R.locals) (hd : decode cc pc = .ok (.invokespecial idx, 3))
    (kk : ZE p l e R s m args below meth c D n0 N nL cells slots Q EE (pc + 3) ls []) : ZE p l e R s m args below meth c D n0 N nL cells slots Q EE pc ls [.ref a] := by
  intro H locs lsA hP hS hl
  exact W.objInit C.1 C.2.1 C.2.2.2.1 (C.2.2.2.2.1 _ hlink) (C.2.2.2.2.1 _ hinst) (C.2.2.2.2.1 _ hcode) rfl (by rw [C.2.2.1]; exact hl.1) rfl hd hR.1 hR.2 (kk H locs lsA hP hS hl)
theorem k_put (C : Cx p l s m args meth c D n0 own cc nL) {k ci idx NF : Nat} {ref Cn : String} {T : u_T} {fs : List Value} {v : Value} {ty : FieldType} (f : Nat) (ty0 : Nat → FieldType) (he : EE k = .inr (ci, fs)) (hk : k < N) (hc : vwCl[ci]? = some (Cn, T, NF)) (hin : ∀ w ∈ u_ws Cn T NF, w ∈ tb) (hty : ∀ k, k < NF → parseFieldDescriptor (T k).2.2.1 = some (ty0 k)) (hnm : ∀ a, a < NF → ∀ b, b < NF → a ≠ b → (T a).2.1 ≠ (T b).2.1) (hf : f < NF) (hlink : Cond.fieldLink own idx ref (T f).2.1 (T f).2.2.1 ∈ tb) (href : (T f).1 = ref) (hfin : (T f).2.2.2 = false) (hdesc : parseFieldDescriptor (T f).2.2.1 = some ty) (hn : narrow ty v = v) (hfit : fits ty v = true) (hlen : f < fs.length) (hd : decode cc pc = .ok (.putfield idx, 3))
    (kk : ZE p l e R s m args below meth c D n0 N nL cells slots Q (upE EE k (.inr (ci, fs.set f v))) (pc + 3) ls st) : ZE p l e R s m args below meth c D n0 N nL cells slots Q EE pc ls (v :: .ref (n0 + k) :: st) := fun H locs lsA hP hS hl => va_put C.1 C.2.1 C.2.2.2.2.1 hin ty0 hty hnm C.2.2.2.1 C.2.2.2.2.2.1 hP wg_D hS k (fs := fs) (by rw [wg_get hk, he]) hc f hf (C.2.2.2.2.1 _ hlink) (fun x h => by rw [← href]; exact h) hfin hdesc hn hfit hlen hd (fun H1 locs1 hP1 hD1 hS1 => kk H1 locs1 lsA (by rw [← wg_set]; exact hP1) hS1 hl)
theorem k_putF (C : Cx p l s m args meth c D n0 own cc nL) {k ci idx NF : Nat} {ref Cn : String} {T : u_T} {fs : List Value} {v : Value} {ty : FieldType} (f : Nat) (ty0 : Nat → FieldType) (he : EE k = .inr (ci, fs)) (hk : k < N) (hc : vwCl[ci]? = some (Cn, T, NF)) (hin : ∀ w ∈ u_ws Cn T NF, w ∈ tb) (hty : ∀ k, k < NF → parseFieldDescriptor (T k).2.2.1 = some (ty0 k)) (hnm : ∀ a, a < NF → ∀ b, b < NF → a ≠ b → (T a).2.1 ≠ (T b).2.1) (hf : f < NF) (hlink : Cond.fieldLink own idx ref (T f).2.1 (T f).2.2.1 ∈ tb) (href : (T f).1 = ref) (hfin : (T f).2.2.2 = true) (hin2 : meth.name = "<init>") (hdecl : (T f).1 = own) (hdesc : parseFieldDescriptor (T f).2.2.1 = some ty) (hn : narrow ty v = v) (hfit : fits ty v = true) (hlen : f < fs.length) (hd : decode cc pc = .ok (.putfield idx, 3))
    (kk : ZE p l e R s m args below meth c D n0 N nL cells slots Q (upE EE k (.inr (ci, fs.set f v))) (pc + 3) ls st) : ZE p l e R s m args below meth c D n0 N nL cells slots Q EE pc ls (v :: .ref (n0 + k) :: st) := fun H locs lsA hP hS hl => va_putF C.1 C.2.1 C.2.2.2.2.1 hin ty0 hty hnm C.2.2.2.1 C.2.2.2.2.2.1 hP wg_D hS k (fs := fs) (by rw [wg_get hk, he]) hc f hf (C.2.2.2.2.1 _ hlink) (fun x h => by rw [← href]; exact h) hfin hin2 hdecl hdesc hn hfit hlen hd (fun H1 locs1 hP1 hD1 hS1 => kk H1 locs1 lsA (by rw [← wg_set]; exact hP1) hS1 hl)
theorem k_getf (C : Cx p l s m args meth c D n0 own cc nL) {k ci idx NF : Nat} {ref Cn : String} {T : u_T} {fs : List Value} {v : Value} (f : Nat) (he : EE k = .inr (ci, fs)) (hk : k < N) (hc : vwCl[ci]? = some (Cn, T, NF)) (hin : ∀ w ∈ u_ws Cn T NF, w ∈ tb) (hf : f < NF) (hlink : Cond.fieldLink own idx ref (T f).2.1 (T f).2.2.1 ∈ tb) (href : (T f).1 = ref) (hv : fs[f]? = some v) (hd : decode cc pc = .ok (.getfield idx, 3)) (kk : ZE p l e R s m args below meth c D n0 N nL cells slots Q EE (pc + 3) ls (v :: st)) : ZE p l e R s m args below meth c D n0 N nL cells slots Q EE pc ls (.ref (n0 + k) :: st) := fun H locs lsA hP hS hl => va_get C.1 C.2.1 C.2.2.2.2.1 hin C.2.2.2.1 C.2.2.2.2.2.1 hP k (fs := fs) (by rw [wg_get hk, he]) hc f hf (C.2.2.2.2.1 _ hlink) (fun x h => by rw [← href]; exact h) hv hd (kk H locs lsA hP hS hl)
theorem k_iast (C : Cx p l s m args meth c D n0 own cc nL) {k n : Nat} {f : Nat → Int32} {i x : Int32} (j : Nat) (he : EE k = .inl (D.2.1, n, .inl f)) (hk : k < N) (hij : i = nI j) (hj : j < n) (hn : n < 2 ^ 31) (hd : decode cc pc = .ok (.iastore, 1)) (kk : ZE p l e R s m args below meth c D n0 N nL cells slots Q (upE EE k (.inl (D.2.1, n, .inl (upd f j x)))) (pc + 1) ls st) : ZE p l e R s m args below meth c D n0 N nL cells slots Q EE pc ls (.int x :: .int i :: .ref (n0 + k) :: st) := fun H locs lsA hP hS hl => by
  subst hij
  refine va_iast C.1 C.2.1 C.2.2.2.2.2.1 hP wg_D hS k 0 (by rw [wg_get hk, he]) rfl (vp_in_nI hj hn) hd ?_
  rw [nI_clamp (Nat.lt_trans hj hn)]
  exact fun H1 locs1 hP1 hD1 hS1 => kk H1 locs1 lsA (by rw [← wg_set]; exact hP1) hS1 hl
theorem k_alen (C : Cx p l s m args meth c D n0 own cc nL) {k n : Nat} {f : Nat → Int32} (he : EE k = .inl (D.2.1, n, .inl f)) (hk : k < N) (hd : decode cc pc = .ok (.arraylength, 1)) (kk : ZE p l e R s m args below meth c D n0 N nL cells slots Q EE (pc + 1) ls (.int (nI n) :: st)) : ZE p l e R s m args below meth c D n0 N nL cells slots Q EE pc ls (.ref (n0 + k) :: st) := fun H locs lsA hP hS hl => by
  have he2 : (wg n0 N EE)[k]? = some (n0 + k, .inl (D.2.1, n, .inl f)) := by rw [wg_get hk, he]
  exact va_alen C.1 C.2.1 C.2.2.2.2.2.1 hP k 0 he2 rfl rfl hd (kk H locs lsA hP hS hl)
theorem k_aast (C : Cx p l s m args meth c D n0 own cc nL) {k v n : Nat} {f : Nat → Option Nat} {vs : List Value} {i : Int32} (j : Nat) (he : EE k = .inl (D.2.2.2.1, n, .inr (.inr (.inr (.inr f))))) (hv : EE v = .inr (3, vs)) (hk : k < N) (hvN : v < N) (hij : i = nI j) (hj : j < n) (hn : n < 2 ^ 31) (hd : decode cc pc = .ok (.aastore, 1)) (kk : ZE p l e R s m args below meth c D n0 N nL cells slots Q (upE EE k (.inl (D.2.2.2.1, n, .inr (.inr (.inr (.inr (va_up f j (some (n0 + v)))))) ))) (pc + 1) ls st) : ZE p l e R s m args below meth c D n0 N nL cells slots Q EE pc ls (.ref (n0 + v) :: .int i :: .ref (n0 + k) :: st) := fun H locs lsA hP hS hl => by
  subst hij
  refine va_astq C.1 C.2.1 C.2.2.2.2.2.1 hP wg_D hS k 2 v 3 (by rw [wg_get hk, he]) rfl (by rw [wg_get hvN, hv]) rfl (vp_in_nI hj hn) hd ?_
  rw [nI_clamp (Nat.lt_trans hj hn)]
  exact fun H1 locs1 hP1 hD1 hS1 => kk H1 locs1 lsA (by rw [← wg_set]; exact hP1) hS1 hl
end KROWS

