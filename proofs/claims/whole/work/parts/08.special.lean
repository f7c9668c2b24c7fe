/-! rows of the methods that make cells or copy rows -/
section ZP0
variable {D : va_G} {cI cJ cM cS : ClassId} {n0 : Nat} {p : Program} {l : Launch} {e : Env} {R : Room} {s : State} {m : MethodId} {args : Array Value} {below : List Frame} {meth : Method} {c : Code} {cc : ByteArray} {nL : Nat} {own : String} {Q : State → Prop} {cells slots pc : Nat} {L L' : List (Nat × Value)} {st : List Value} {n : Nat} {h : Nat → va_E}
theorem z_nn {z : Int32} (hz : ¬ z < 0) : z.toInt = (z.toNatClampNeg : Int) := by
  have hz0 : (0 : Int) ≤ z.toInt := by
    have := Int32.not_lt.mp hz
    simpa using Int32.le_iff_toInt_le.mp this
  show z.toInt = ((z.toInt.toNat : Nat) : Int)
  omega
theorem zr_copy (hX : z_X D cI cJ cM cS p s m args c cc nL own) {k0 k1 len0 len1 i : Nat} {f g : Nat → Int32} {sp dp q : Int32} (hd : decode cc pc = .ok (.invokestatic i, 3)) (hw : Cond.methodLink own i arraycopyName ∈ z_ws) (hk0 : k0 < n) (hk1 : k1 < n) (he0 : h k0 = .inl (cI, len0, .inl f)) (he1 : h k1 = .inl (cI, len1, .inl g)) (h1 : ¬ sp < 0) (h2 : ¬ dp < 0) (h3 : ¬ q < 0) (h4 : sp.toNatClampNeg + q.toNatClampNeg ≤ len0) (h5 : dp.toNatClampNeg + q.toNatClampNeg ≤ len1) (hframes : 1 ≤ R.frames) (hlocals : (st.map fun v => v.category).sum + (nativeFrameWords "java/lang/System" "arraycopy" 5 + 11) ≤ R.locals) (kk : z_w D n0 p l e R s m args below meth c nL Q cells slots (pc + 3) L st n (z_up h k1 (.inl (cI, len1, .inl (va_cpy f g sp.toNatClampNeg dp.toNatClampNeg q.toNatClampNeg))))) : z_w D n0 p l e R s m args below meth c nL Q cells slots pc L (.int q :: .int dp :: .ref (n0 + k1) :: .int sp :: .ref (n0 + k0) :: st) n h := by
  intro H locs ls hl hR hS T hT X
  have hml : c.maxLocals = ls.size := hX.1.2.2.1.trans hl.1.symm
  have hc0 : H[n0 + k0]? = some (vp_cell cI (len0, .inl f)) := by
    have := hR.2 k0 hk0
    rw [he0] at this
    exact this
  have hc1 : H[n0 + k1]? = some (vp_cell cI (len1, .inl g)) := by
    have := hR.2 k1 hk1
    rw [he1] at this
    exact this
  obtain ⟨-, j0, hj0, cm0, hkk0⟩ := (hX.2.2 0 _ rfl).1 len0 (fun j => .int (f j))
  obtain ⟨-, j1, hj1, cm1, hkk1⟩ := (hX.2.2 0 _ rfl).1 len1 (fun j => .int (g j))
  obtain ⟨vm', X', step⟩ := X.arraycopy hX.1.1 hX.1.2.2.2.1 (hX.1.2.2.2.2 _ hw) (hX.1.2.2.2.2 _ kw_275) (hX.1.2.2.2.2 _ kw_274) (hX.1.2.2.2.2 _ kw_68) (src := n0 + k0) (dst := n0 + k1) (cs := vp_cell cI (len0, .inl f)) (cd := vp_cell cI (len1, .inl g)) (srcPos := sp) (destPos := dp) (n := q) (by rw [hT]; exact hc0) (by rw [hT]; exact hc1)
    (fun _ h => by cases h) (fun _ h => by cases h) (fun h => by cases h) (fun h => by cases h) hj0 hj1 hkk0 hkk1 (by simp [refKind]) h1 h2 h3
    (by rw [z_nn h1, z_nn h3]; show ¬ _ > ((arrV cI len0 (fun j => .int (f j))).slots.size : Int); rw [arrV_size]; omega)
    (by rw [z_nn h2, z_nn h3]; show ¬ _ > ((arrV cI len1 (fun j => .int (g j))).slots.size : Int); rw [arrV_size]; omega)
    (fun vm₁ _ i hi => by
      have e : (vp_cell cI (len0, .inl f)).slots.getD (sp.toNatClampNeg + i) .null = .int (f (sp.toNatClampNeg + i)) := by
        show (arrV cI len0 (fun j => .int (f j))).slots.getD _ _ = _
        rw [Array.getD_eq_getD_getElem?, arrV_read _ _ (by omega)]
        rfl
      refine ⟨?_, ?_⟩
      · rw [e]
        rfl
      · rw [e]
        exact trivial)
    (g := F0 m pc ls (.int q :: .int dp :: .ref (n0 + k1) :: .int sp :: .ref (n0 + k0) :: st)) rfl (by rw [hml]) (rest := st) rfl (by rw [hX.1.2.1]; exact hd) hframes (by show 2 * 0 + _ + _ ≤ _; omega)
  have e1 : copied (vp_cell cI (len0, .inl f)) (vp_cell cI (len1, .inl g)) sp dp q = vp_cell cI (len1, .inl (va_cpy f g sp.toNatClampNeg dp.toNatClampNeg q.toNatClampNeg)) := va_copied (fun z => .int z) cI cI f g h4
  rw [e1] at X' step
  have hlt : n0 + k1 < H.size := (Array.getElem?_eq_some_iff.mp hc1).1
  have hheap : ((T.setVm vm').setCell (n0 + k1) (vp_cell cI (len1, .inl (va_cpy f g sp.toNatClampNeg dp.toNatClampNeg q.toNatClampNeg)))).heap = H.setIfInBounds (n0 + k1) (vp_cell cI (len1, .inl (va_cpy f g sp.toNatClampNeg dp.toNatClampNeg q.toNatClampNeg))) := by rw [← hT]; rfl
  have oq : ∀ y : Nat, y ≠ n0 + k1 → (H.setIfInBounds (n0 + k1) (vp_cell cI (len1, .inl (va_cpy f g sp.toNatClampNeg dp.toNatClampNeg q.toNatClampNeg))))[y]? = H[y]? := fun y hy => by simp [Array.getElem?_setIfInBounds, Ne.symm hy]
  obtain ⟨t, a1, b1⟩ := kk _ _ ls hl (z_H_put hR (show (H.setIfInBounds (n0 + k1) _)[n0 + k1]? = some _ by simp [Array.getElem?_setIfInBounds, hlt]) (by simp) oq) ⟨by simp; exact hS.1, fun y g1 g2 => by
      rw [oq y (fun e => g2 (by rw [e]; exact Nat.le_add_right _ _))]
      exact hS.2.1 y g1 g2, fun y hy => by
      rcases List.mem_append.mp hy with h | h
      · exact hS.2.2 y h
      · obtain ⟨z, -, hz⟩ := List.mem_map.mp h
        rw [← hz]
        exact Nat.le_add_right _ _⟩ _ hheap X'
  exact ⟨t, step t a1, b1⟩
theorem zr_f2raw (hX : z_X D cI cJ cM cS p s m args c cc nL own) {i : Nat} {x : UInt32} (hd : decode cc pc = .ok (.invokestatic i, 3)) (hw : Cond.methodLink own i ⟨"java/lang/Float", "floatToRawIntBits", "(F)I"⟩ ∈ z_ws) (h1 : 1 ≤ R.frames) (h2 : (st.map fun v => v.category).sum + 15 ≤ R.locals) (kk : z_w D n0 p l e R s m args below meth c nL Q cells slots (pc + 3) L (.int x.toInt32 :: st) n h) : z_w D n0 p l e R s m args below meth c nL Q cells slots pc L (.float x :: st) n h := fun H locs ls hl hR hS => vn_f2i hX.1.1 hX.1.2.1 (hX.1.2.2.1.trans hl.1.symm) hX.1.2.2.2.1 (hX.1.2.2.2.2 _ hw) (hX.1.2.2.2.2 _ kw_923) (hX.1.2.2.2.2 _ kw_922) (hX.1.2.2.2.2 _ kw_70) h1 h2 hd (kk H locs ls hl hR hS)
/-- a new object: its fields' first values -/
theorem zr_new (hX : z_X D cI cJ cM cS p s m args c cc nL own) {ci : Nat} {C : String} {T : u_T} {N i : Nat} {fs : List Value} (hc : vwCl[ci]? = some (C, T, N)) (hin : ∀ w ∈ u_ws C T N, w ∈ z_ws) (ty : Nat → FieldType) (hty : ∀ k, k < N → parseFieldDescriptor (T k).2.2.1 = some (ty k)) (w1 : Cond.classLink own i C ∈ z_ws) (w2 : Cond.instantiable C N ∈ z_ws) (w3 : Cond.initialized C ∈ z_ws) (hfs : ∀ j, j < N → defaultValue (ty j) = vp_V fs j) (hcells : cells + 1 ≤ R.cells) (hslots : slots + N ≤ R.slots) (hd : decode cc pc = .ok (.new i, 3)) (kk : z_w D n0 p l e R s m args below meth c nL Q (cells + 1) (slots + N) (pc + 3) L (.ref (n0 + n) :: st) (n + 1) (z_up h n (.inr (ci, fs)))) : z_w D n0 p l e R s m args below meth c nL Q cells slots pc L st n h := by
  intro H locs ls hl hR hS
  have hts := hX.1.2.2.2.2
  have hKn := hX.2.1 ci _ hc
  refine W.newcK hX.1.1 hX.1.2.1 hX.1.2.2.2.1 (hts _ w1) (hts _ w2) (hts _ w3) rfl hd hcells hslots hKn.2.1 hR.1 fun H1 kC hkC e1 z1 o1 => ?_
  refine kk H1 locs ls hl (z_H_new hR ⟨_, hc, (u_born ty hts hin hKn hkC e1 hty).to hfs⟩ (by rw [z1, hR.1]) (fun q hq => o1 q (by rw [← hR.1]; exact hq))) ⟨Nat.le_trans hS.1 (by rw [hR.1, z1]; exact Nat.le_succ _), fun x h1 h2 => (o1 x (by rw [← hR.1]; exact Nat.lt_of_lt_of_le h1 hS.1)).trans (hS.2.1 x h1 h2), hS.2.2⟩
/-- a new int[], long[] -/
theorem zr_newI (hX : z_X D cI cJ cM cS p s m args c cc nL own) {q : Int32} {N : Nat} (hd : decode cc pc = .ok (.newarray .int, 2)) (hn : ¬ q < 0) (hN : q.toNatClampNeg = N) (hb : N * 4 ≤ 536870912) (hcells : cells + 1 ≤ R.cells) (hslots : slots + N ≤ R.slots) (kk : z_w D n0 p l e R s m args below meth c nL Q (cells + 1) (slots + N) (pc + 2) L (.ref (n0 + n) :: st) (n + 1) (z_up h n (.inl (cI, N, .inl (fun _ => 0))))) : z_w D n0 p l e R s m args below meth c nL Q cells slots pc L (.int q :: st) n h := by
  intro H locs ls hl hR hS
  refine va_newaK (atype := .int) hX.1.1 hX.1.2.1 (hX.1.2.2.2.2 _ kw_142) rfl hd rfl hn hN hb hcells hslots hR.1 fun H1 cA e1 z1 o1 _ hnm => ?_
  have hcA : cA = cI := Option.some.inj (hnm.symm.trans (hX.2.2 0 _ rfl).2)
  subst hcA
  refine kk H1 locs ls hl (z_H_new hR e1 (by rw [z1, hR.1]) (fun q hq => o1 q (by rw [← hR.1]; exact hq))) ⟨Nat.le_trans hS.1 (by rw [hR.1, z1]; exact Nat.le_succ _), fun x h1 h2 => (o1 x (by rw [← hR.1]; exact Nat.lt_of_lt_of_le h1 hS.1)).trans (hS.2.1 x h1 h2), hS.2.2⟩
theorem zr_newL (hX : z_X D cI cJ cM cS p s m args c cc nL own) {q : Int32} {N : Nat} (hd : decode cc pc = .ok (.newarray .long, 2)) (hn : ¬ q < 0) (hN : q.toNatClampNeg = N) (hb : N * 8 ≤ 536870912) (hcells : cells + 1 ≤ R.cells) (hslots : slots + N ≤ R.slots) (kk : z_w D n0 p l e R s m args below meth c nL Q (cells + 1) (slots + N) (pc + 2) L (.ref (n0 + n) :: st) (n + 1) (z_up h n (.inl (cJ, N, .inr (.inl (fun _ => 0)))))) : z_w D n0 p l e R s m args below meth c nL Q cells slots pc L (.int q :: st) n h := by
  intro H locs ls hl hR hS
  refine va_newaK (atype := .long) hX.1.1 hX.1.2.1 (hX.1.2.2.2.2 _ kw_200) rfl hd rfl hn hN hb hcells hslots hR.1 fun H1 cA e1 z1 o1 _ hnm => ?_
  have hcA : cA = cJ := Option.some.inj (hnm.symm.trans (hX.2.2 1 _ rfl).2)
  subst hcA
  refine kk H1 locs ls hl (z_H_new hR e1 (by rw [z1, hR.1]) (fun q hq => o1 q (by rw [← hR.1]; exact hq))) ⟨Nat.le_trans hS.1 (by rw [hR.1, z1]; exact Nat.le_succ _), fun x h1 h2 => (o1 x (by rw [← hR.1]; exact Nat.lt_of_lt_of_le h1 hS.1)).trans (hS.2.1 x h1 h2), hS.2.2⟩
/-- a new State[] -/
theorem zr_newS (hX : z_X D cI cJ cM cS p s m args c cc nL own) (hAO : va_AO "MeterTree$State" s) {q : Int32} {N i : Nat} (hd : decode cc pc = .ok (.anewarray i, 3)) (w1 : Cond.classLink own i "MeterTree$State" ∈ z_ws) (hn : ¬ q < 0) (hN : q.toNatClampNeg = N) (hb : N * 4 ≤ 536870912) (hcells : cells + 1 ≤ R.cells) (hslots : slots + N ≤ R.slots) (kk : z_w D n0 p l e R s m args below meth c nL Q (cells + 1) (slots + N) (pc + 3) L (.ref (n0 + n) :: st) (n + 1) (z_up h n (.inl (cS, N, .inr (.inr (.inr (.inr (fun _ => none)))))))) : z_w D n0 p l e R s m args below meth c nL Q cells slots pc L (.int q :: st) n h := by
  subst hN
  intro H locs ls hl hR hS
  refine W.anew hX.1.1 hX.1.2.1 hX.1.2.2.2.1 (hX.1.2.2.2.2 _ w1) (va_AO.use hAO) rfl hd rfl hn hb hcells hslots fun cA kA comp f1 f2 f3 f4 => ?_
  obtain ⟨kA2, comp2, -, -, -, k4⟩ := (hX.2.2 3 _ rfl).2
  have hcA : cA = cS := Option.some.inj (f1.symm.trans k4)
  subst hcA
  generalize hH1 : H.push ({ cls := cA, slots := Array.replicate q.toNatClampNeg .null, vm := .none } : Cell) = H1
  have z1 : H1.size = H.size + 1 := by rw [← hH1, Array.size_push]
  have e1 : H1[H.size]? = some (arrV cA q.toNatClampNeg (fun _ => .null)) := by rw [← hH1, Array.getElem?_push_size, ← arrV_new]
  have o1 : ∀ x : Nat, x < H.size → H1[x]? = H[x]? := fun x hx => by rw [← hH1, Array.getElem?_push, if_neg (Nat.ne_of_lt hx)]
  have eR : (Value.ref H.size) = .ref (n0 + n) := by rw [hR.1]
  rw [eR]
  refine kk H1 locs ls hl (z_H_new hR (by rw [← hR.1]; exact e1) z1 o1) ⟨Nat.le_trans hS.1 (by rw [z1]; exact Nat.le_succ _), fun x h1 h2 => (o1 x (Nat.lt_of_lt_of_le h1 hS.1)).trans (hS.2.1 x h1 h2), hS.2.2⟩
/-- a new int[][] and its rows, behind it -/
def z_mna (n0 n N K : Nat) (cI cM : ClassId) (h : Nat → va_E) : Nat → va_E := fun k => if k < n then h k else if k = n then .inl (cM, N, .inr (.inr (.inr (.inr (fun i => some (n0 + (n + 1 + i))))))) else .inl (cI, K, .inl (fun _ => 0))
theorem z_arrext {c : ClassId} {n : Nat} {f g : Nat → Value} (h : ∀ j, j < n → f j = g j) : arrV c n f = arrV c n g := by
  unfold arrV
  congr 1
  apply Array.ext
  · simp
  · intro i h1 h2
    simp only [Array.getElem_ofFn]
    exact h _ (by simpa using h1)
theorem zr_mna (hX : z_X D cI cJ cM cS p s m args c cc nL own) (hAO : (Cond.arrayOver (.array .int)).before #[] s = true) {x y : Int32} {N K i : Nat} (hd : decode cc pc = .ok (.multianewarray i 2, 4)) (w1 : Cond.classLink own i "[[I" ∈ z_ws) (hx : ¬ x < 0) (hy : ¬ y < 0) (hN : x.toNatClampNeg = N) (hM : y.toNatClampNeg = K) (hb1 : N * 4 ≤ 536870912) (hb2 : K * 4 ≤ 536870912) (hcells : cells + (1 + N) ≤ R.cells) (hslots : slots + (N + N * K) ≤ R.slots) (kk : z_w D n0 p l e R s m args below meth c nL Q (cells + 1 + N) (slots + N + N * K) (pc + 4) L (.ref (n0 + n) :: st) (n + 1 + N) (z_mna n0 n N K cI cM h)) : z_w D n0 p l e R s m args below meth c nL Q cells slots pc L (.int y :: .int x :: st) n h := by
  subst hN
  subst hM
  intro H locs ls hl hR hS T hT Xs
  obtain ⟨vm₁, cA, comp, -, fA, fC, hO, -, X', step⟩ := Jvm.Stand.multianewarray2F (ty := .int) Xs hX.1.1 hX.1.2.2.2.1 (hX.1.2.2.2.2 _ w1) hAO (hX.1.2.2.2.2 _ kw_142) (g := F0 m pc ls (.int y :: .int x :: st)) rfl (by rw [hX.1.2.1]; exact hd) rfl hx hy hb1 hb2 (by omega) rfl rfl hcells hslots
  have hcA : cA = cM := Option.some.inj (fA.symm.trans (hX.2.2 2 _ rfl).2)
  have hcC : comp = cI := Option.some.inj (fC.symm.trans (hX.2.2 0 _ rfl).2)
  subst hcA
  subst hcC
  generalize hF : Jvm.Free.Multi.fill (T.setVm vm₁) cA comp x.toNatClampNeg y.toNatClampNeg (defaultValue .int) x.toNatClampNeg = F at X' step
  have hTh : (T.setVm vm₁).heap = H := hT
  obtain ⟨f1, f2, -, -⟩ := Jvm.Free.Multi.fill_facts (T.setVm vm₁) cA comp x.toNatClampNeg y.toNatClampNeg (defaultValue .int) x.toNatClampNeg
  rw [hF, hTh] at f1 f2
  have hold : ∀ z : Nat, z < H.size → F.heap[z]? = H[z]? := fun z hz => by
    have := Jvm.Free.Multi.fill_old (T.setVm vm₁) cA comp x.toNatClampNeg y.toNatClampNeg (defaultValue .int) (a := z) (by rw [hTh]; exact hz) x.toNatClampNeg
    rw [hF, hTh] at this
    exact this
  have hrow : ∀ j : Nat, j < x.toNatClampNeg → F.heap[H.size + 1 + j]? = some (arrV comp y.toNatClampNeg (fun _ => .int 0)) := fun j hj => by
    have := Jvm.Free.Multi.fill_inner (T.setVm vm₁) cA comp x.toNatClampNeg y.toNatClampNeg (defaultValue .int) x.toNatClampNeg j hj
    rw [hF, hTh] at this
    rw [this, ← arrV_new]
    rfl
  have hout : Jvm.Free.Multi.outerC cA x.toNatClampNeg H.size x.toNatClampNeg = arrV cA x.toNatClampNeg (fun j => va_rf (some (n0 + (n + 1 + j)))) := by
    have hO2 : ∀ i : Nat, Jvm.Free.Multi.outerC cA x.toNatClampNeg H.size i = arrV cA x.toNatClampNeg (fun j => va_rf (if j < i then some (H.size + 1 + j) else none)) := by
      intro i
      induction i with
      | zero =>
        show ({ cls := cA, slots := Array.replicate x.toNatClampNeg .null, vm := .none } : Cell) = _
        rw [arrV_new]
        refine congrArg (arrV cA x.toNatClampNeg) (funext fun j => ?_)
        simp [va_rf]
      | succ i ih =>
        show (Jvm.Free.Multi.outerC cA x.toNatClampNeg H.size i).setSlot i (.ref (H.size + 1 + i)) = _
        rw [ih, arrV_store]
        refine congrArg (arrV cA x.toNatClampNeg) (funext fun j => ?_)
        by_cases e : j = i
        · subst e
          simp [updV, va_rf]
        · by_cases h : j < i
          · simp [updV, e, h, Nat.lt_succ_of_lt h]
          · simp [updV, e, h, show ¬ j < i + 1 by omega]
    rw [hO2]
    refine z_arrext (fun j hj => ?_)
    rw [if_pos hj, hR.1, Nat.add_assoc n0, Nat.add_assoc n0]
  rw [hout] at f2
  have hR1 : z_H D n0 (n + 1 + x.toNatClampNeg) (z_mna n0 n x.toNatClampNeg y.toNatClampNeg comp cA h) F.heap := by
    refine ⟨by rw [f1, hR.1]; omega, fun k hk => ?_⟩
    unfold z_mna
    by_cases h1 : k < n
    · rw [if_pos h1]
      exact (hR.2 k h1).kept (hold _ (by simp only; rw [hR.1]; omega))
    · rw [if_neg h1]
      by_cases h2 : k = n
      · subst h2
        rw [if_pos rfl]
        show F.heap[n0 + k]? = some (vp_cell _ _)
        rw [← hR.1]
        exact f2
      · rw [if_neg h2]
        show F.heap[n0 + k]? = some (vp_cell _ _)
        have := hrow (k - n - 1) (by omega)
        rw [hR.1, show n0 + n + 1 + (k - n - 1) = n0 + k by omega] at this
        exact this
  obtain ⟨t, a1, b1⟩ := kk F.heap locs ls hl hR1 ⟨by rw [f1]; have := hS.1; omega, fun z h1 h2 => (hold z (Nat.lt_of_lt_of_le h1 hS.1)).trans (hS.2.1 z h1 h2), hS.2.2⟩ F rfl X'
  refine ⟨t, step t ?_, b1⟩
  have e : T.heap.size = n0 + n := by rw [hT, hR.1]
  rw [e]
  exact a1
theorem zr_objInit (hX : z_X D cI cJ cM cS p s m args c cc nL own) {i a : Nat} (hd : decode cc pc = .ok (.invokespecial i, 3)) (hw : Cond.methodLink own i Lib.objectInit ∈ z_ws) (w2 : Cond.instanceMethod Lib.objectInit ∈ z_ws) (w3 : Cond.code Lib.objectInit ⟨#[0xb1]⟩ 1 none ∈ z_ws) (h1 : 1 ≤ R.frames) (h2 : (st.map fun v => v.category).sum + 12 ≤ R.locals) (kk : z_w D n0 p l e R s m args below meth c nL Q cells slots (pc + 3) L st n h) : z_w D n0 p l e R s m args below meth c nL Q cells slots pc L (.ref a :: st) n h := fun H locs ls hl hR hS => W.objInit hX.1.1 hX.1.2.1 hX.1.2.2.2.1 (hX.1.2.2.2.2 _ hw) (hX.1.2.2.2.2 _ w2) (hX.1.2.2.2.2 _ w3) rfl (hl.1.trans hX.1.2.2.1.symm) rfl hd h1 (by show 2 * 0 + _ + 12 ≤ _; omega) (kk H locs ls hl hR hS)
theorem zr_putF (hX : z_X D cI cJ cM cS p s m args c cc nL own) {ci : Nat} {C : String} {T : u_T} {N k i : Nat} {fs : List Value} (hc : vwCl[ci]? = some (C, T, N)) (hin : ∀ w ∈ u_ws C T N, w ∈ z_ws) (hk : k < n) (he : h k = .inr (ci, fs)) (j : Nat) (hj : j < N) (hw : Cond.fieldLink own i C (T j).2.1 (T j).2.2.1 ∈ z_ws) (hT : (T j).1 = C) (ty0 : Nat → FieldType) (hty : ∀ k, k < N → parseFieldDescriptor (T k).2.2.1 = some (ty0 k)) (hnm : ∀ a, a < N → ∀ b, b < N → a ≠ b → (T a).2.1 ≠ (T b).2.1) (hfin : (T j).2.2.2 = true) (hin2 : meth.name = "<init>") (hown2 : C = own) {ty : FieldType} {v : Value} (hd0 : parseFieldDescriptor (T j).2.2.1 = some ty) (hn : narrow ty v = v) (hfit : fits ty v = true) (hlen : j < fs.length) (hd : decode cc pc = .ok (.putfield i, 3)) (kk : z_w D n0 p l e R s m args below meth c nL Q cells slots (pc + 3) L st n (z_up h k (.inr (ci, fs.set j v)))) : z_w D n0 p l e R s m args below meth c nL Q cells slots pc L (v :: .ref (n0 + k) :: st) n h := fun H locs ls hl hR hS => by
  have hts := hX.1.2.2.2.2
  have hap := va_apart (own := own) hts hin ty0 hty hnm hX.2 hc
  have hA := hR.2 k hk
  rw [he] at hA
  obtain ⟨r, h1, cell, q1, q2, q3, q4⟩ := hA
  have hr : r = (C, T, N) := Option.some.inj (h1.symm.trans hc)
  subst hr
  obtain ⟨hSl, hfc, kC, hkC, hkind⟩ := hX.2.1 ci _ hc
  obtain ⟨cf, kf, fi, f, hi, hsl⟩ := hSl j hj
  have hlay := hts _ (hin _ (u_in_lay hj))
  unfold u_lay at hlay
  rw [if_pos hfin] at hlay
  have hst := (u_facts hfc hkC (u_lays hts hin hj) hi).1
  have hcf : m.cls = cf := by
    obtain ⟨_, _, c', _, _, _, -, -, hf', -, -, -, hown3, -⟩ := Cond.laysFinal_spec hlay
    have e1 : c' = cf := by have := hi.symm.trans hf'; simp at this; exact this.1.symm
    rw [hT, hown2] at hown3
    rw [← e1]; exact Option.some.inj (hX.1.2.2.2.1.symm.trans hown3)
  have h6 := u_fits hfc hkC hkind (Or.inr hlay) hi hd0 hn hfit
  refine W.putFinK hX.1.1 hX.1.2.1 hX.1.2.2.2.1 (hts _ hw) (by rw [← hT]; exact hi) hst hcf hin2 (by rw [q2]; exact h6) q1 q3 (by rw [hsl]; exact k2_hasslot (q4 j hj)) rfl rfl hd fun H' e1 e2 e3 => ?_
  rw [hsl] at e1 ⊢
  exact kk H' _ ls hl (z_H_put hR ⟨_, hc, t_OB.to (V := updV (vp_V fs) j v) ⟨_, e1, q2, q3, t_set q4 hap hj v⟩ (fun x _ => vp_updV_set hlen v x)⟩ e2 e3) (hS.put e2 e3 (Nat.le_add_right _ _))
end ZP0
