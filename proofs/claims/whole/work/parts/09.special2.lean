/-! typed rows for whole rows of ints, for the states that the history holds, for blocks of a state; a new state -/
section ZP1
variable {D : va_G} {cI cJ cM cS : ClassId} {n0 : Nat} {p : Program} {l : Launch} {e : Env} {R : Room} {s : State} {m : MethodId} {args : Array Value} {below : List Frame} {meth : Method} {c : Code} {cc : ByteArray} {nL : Nat} {own : String} {Q : State → Prop} {cells slots pc : Nat} {L L' : List (Nat × Value)} {st : List Value} {σ : z_S}
def zs_row (σ : z_S) (k : Nat) (f : Nat → Int32) : z_S := (fun a b => if a = k then f b else σ.1 a b, σ.2)
theorem zg_i_row (σ : z_S) (k : Nat) (f : Nat → Int32) (a b : Nat) : zg_i (zs_row σ k f) a b = if a = k then f b else zg_i σ a b := rfl
theorem zg_l_row (σ : z_S) (k : Nat) (f : Nat → Int32) : zg_l (zs_row σ k f) = zg_l σ := rfl
theorem zg_r_row (σ : z_S) (k : Nat) (f : Nat → Int32) : zg_r (zs_row σ k f) = zg_r σ := rfl
theorem zg_n_row (σ : z_S) (k : Nat) (f : Nat → Int32) : zg_n (zs_row σ k f) = zg_n σ := rfl
theorem z_uprow {k len : Nat} {f : Nat → Int32} (hs : z_sh k = (10, len)) (a : Nat) : z_E n0 cI cJ cM cS (zs_row σ k f) a = z_up (z_E n0 cI cJ cM cS σ) k (.inl (cI, len, .inl f)) a := by
  by_cases h : a = k
  · subst h
    rw [z_up_at, z_E10 hs]
    have e : zg_i (zs_row σ a f) a = f := by
      funext b
      rw [zg_i_row, if_pos rfl]
    rw [e]
  · rw [z_up_ne _ _ h]
    have e : zg_i (zs_row σ k f) a = zg_i σ a := by
      funext b
      rw [zg_i_row, if_neg h]
    unfold z_E
    rw [e]
    rfl
theorem z_upst {j : Nat} {v : Option Nat} (a : Nat) : z_E n0 cI cJ cM cS (zs_r σ j v) a = z_up (z_E n0 cI cJ cM cS σ) 28 (.inl (cS, 5, .inr (.inr (.inr (.inr (fun i => ((if i = j then v else zg_r σ i)).map (fun b => n0 + b))))))) a := by
  by_cases h : a = 28
  · subst h
    rw [z_up_at, z_E13 (len := 5) (by decide)]
    rfl
  · rw [z_up_ne _ _ h]
    have hsh : (z_sh a).1 ≠ 13 := by
      unfold z_sh
      by_cases h81 : a < 81
      · rw [if_pos h81]
        exact (show ∀ a, a < 81 → a ≠ 28 → (z_tab.getD a (0, 0)).1 ≠ 13 by decide +kernel) a h81 h
      · rw [if_neg h81]
        exact (show ∀ b, b < 26 → (z_tab.getD (1 + b) (0, 0)).1 ≠ 13 by decide +kernel) _ (Nat.mod_lt _ (by decide))
    unfold z_E
    rw [show zg_i (zs_r σ j v) a = zg_i σ a from rfl, show zg_l (zs_r σ j v) a = zg_l σ a from rfl]
    generalize z_sh a = t at hsh ⊢
    obtain ⟨t1, t2⟩ := t
    simp only at hsh
    unfold z_Ec
    split <;> first | rfl | (exfalso; simp_all)
/-- a state's 26 places from k on -/
def z_blk (k : Nat) (σ : z_S) : Prop := (∀ j, j < 26 → z_sh (k + j) = z_sh (1 + j)) ∧ k + 26 ≤ zg_n σ
theorem z_blk_eq {k : Nat} {σ σ1 : z_S} (h : z_blk k σ) (e : zg_n σ1 = zg_n σ) : z_blk k σ1 := ⟨h.1, by rw [e]; exact h.2⟩
theorem z_blk_lt {k j : Nat} (h : z_blk k σ) (hj : j < 26) : k + j < zg_n σ := Nat.lt_of_lt_of_le (by omega) h.2
theorem z_blk_lt0 {k : Nat} (h : z_blk k σ) : k < zg_n σ := z_blk_lt (j := 0) h (by decide)
theorem z_blk_sh {k j : Nat} {t : Nat × Nat} (h : z_blk k σ) (hj : j < 26) (ht : z_sh (1 + j) = t) : z_sh (k + j) = t := (h.1 j hj).trans ht
theorem z_blk_E {k : Nat} (h : z_blk k σ) : z_E n0 cI cJ cM cS σ k = .inr (4, [.int (zg_i σ k 0), .int (zg_i σ k 1), .int (zg_i σ k 2), .int (zg_i σ k 3), .ref (n0 + (k + 1)), .ref (n0 + (k + 2)), .ref (n0 + (k + 3)), .ref (n0 + (k + 4)), .ref (n0 + (k + 5)), .ref (n0 + (k + 6)), .ref (n0 + (k + 17))]) := by
  have hs : z_sh k = (4, 0) := (h.1 0 (by decide)).trans (by decide)
  unfold z_E
  rw [hs]
  rfl
theorem zt_copy (hX : z_X D cI cJ cM cS p s m args c cc nL own) {k0 k1 len0 len1 i : Nat} {sp dp q : Int32} (hd : decode cc pc = .ok (.invokestatic i, 3)) (hw : Cond.methodLink own i arraycopyName ∈ z_ws) (hk0 : 81 ≤ zg_n σ → k0 < zg_n σ) (hk1 : 81 ≤ zg_n σ → k1 < zg_n σ) (hs0 : z_sh k0 = (10, len0)) (hs1 : z_sh k1 = (10, len1)) (h1 : ¬ sp < 0) (h2 : ¬ dp < 0) (h3 : ¬ q < 0) (h4 : sp.toNatClampNeg + q.toNatClampNeg ≤ len0) (h5 : dp.toNatClampNeg + q.toNatClampNeg ≤ len1) (hframes : 1 ≤ R.frames) (hlocals : (st.map fun v => v.category).sum + 27 ≤ R.locals) (kk : z_t D cI cJ cM cS n0 p l e R s m args below meth c nL Q cells slots (pc + 3) L st (zs_row σ k1 (va_cpy (zg_i σ k0) (zg_i σ k1) sp.toNatClampNeg dp.toNatClampNeg q.toNatClampNeg))) : z_t D cI cJ cM cS n0 p l e R s m args below meth c nL Q cells slots pc L (.int q :: .int dp :: .ref (n0 + k1) :: .int sp :: .ref (n0 + k0) :: st) σ := fun hN => zr_copy hX hd hw (hk0 hN) (hk1 hN) (z_E10 hs0) (z_E10 hs1) h1 h2 h3 h4 h5 hframes (by have : nativeFrameWords "java/lang/System" "arraycopy" 5 + 11 ≤ 27 := (by decide +kernel); omega) (z_wext (z_uprow hs1) (kk hN))
theorem zt_f2raw (hX : z_X D cI cJ cM cS p s m args c cc nL own) {i : Nat} {x : UInt32} (hd : decode cc pc = .ok (.invokestatic i, 3)) (hw : Cond.methodLink own i ⟨"java/lang/Float", "floatToRawIntBits", "(F)I"⟩ ∈ z_ws) (h1 : 1 ≤ R.frames) (h2 : (st.map fun v => v.category).sum + 15 ≤ R.locals) (kk : z_t D cI cJ cM cS n0 p l e R s m args below meth c nL Q cells slots (pc + 3) L (.int x.toInt32 :: st) σ) : z_t D cI cJ cM cS n0 p l e R s m args below meth c nL Q cells slots pc L (.float x :: st) σ := fun hN => zr_f2raw hX hd hw h1 h2 (kk hN)
theorem zt_aaloadS (hX : z_X D cI cJ cM cS p s m args c cc nL own) {i : Int32} (hd : decode cc pc = .ok (.aaload, 1)) (hi : vp_in i 5) (kn : zg_r σ i.toNatClampNeg = none → z_t D cI cJ cM cS n0 p l e R s m args below meth c nL Q cells slots (pc + 1) L (.null :: st) σ) (ks : ∀ b, zg_r σ i.toNatClampNeg = some b → z_t D cI cJ cM cS n0 p l e R s m args below meth c nL Q cells slots (pc + 1) L (.ref (n0 + b) :: st) σ) : z_t D cI cJ cM cS n0 p l e R s m args below meth c nL Q cells slots pc L (.int i :: .ref (n0 + 28) :: st) σ := fun hN => zr_aaloadS hX hd (Nat.lt_of_lt_of_le (by decide : 28 < 81) hN) (z_E13 (len := 5) (by decide)) hi (by
  cases hr : zg_r σ i.toNatClampNeg with
  | none => simp only [Option.map_none]; exact kn hr hN
  | some b => simp only [Option.map_some]; exact ks b hr hN)
theorem zt_aastoreS (hX : z_X D cI cJ cM cS p s m args c cc nL own) {i : Int32} {b : Nat} (hd : decode cc pc = .ok (.aastore, 1)) (hi : vp_in i 5) (hb : z_blk b σ) (kk : z_t D cI cJ cM cS n0 p l e R s m args below meth c nL Q cells slots (pc + 1) L st (zs_r σ i.toNatClampNeg (some b))) : z_t D cI cJ cM cS n0 p l e R s m args below meth c nL Q cells slots pc L (.ref (n0 + b) :: .int i :: .ref (n0 + 28) :: st) σ := fun hN => zr_aastore hX hd (Nat.lt_of_lt_of_le (by decide : 28 < 81) hN) (z_E13 (len := 5) (by decide)) (z_blk_lt0 hb) (z_blk_E hb) hi (z_wext (fun a => by
  rw [z_upst]
  congr 7
  refine congrArg Sum.inr (funext fun q => ?_)
  by_cases hq : q = i.toNatClampNeg <;> simp [va_up, hq]) (kk hN))
theorem zt_aload_nN (hX : z_X D cI cJ cM cS p s m args c cc nL own) {k : Fin 4} {i : Nat} (j : Nat) (hd : decode cc pc = .ok (.aload_n k, 1)) (hi : (k : Nat) = i) (hL : L[j]? = some (i, .null)) (kk : z_t D cI cJ cM cS n0 p l e R s m args below meth c nL Q cells slots (pc + 1) L (.null :: st) σ) : z_t D cI cJ cM cS n0 p l e R s m args below meth c nL Q cells slots pc L st σ := fun hN => fun H locs ls hl hR hS => lv_aload_nN hX.1.1 hX.1.2.1 hd hi (lv_at hl j hL) (kk hN H locs ls hl hR hS)
theorem zt_astore_nN (hX : z_X D cI cJ cM cS p s m args c cc nL own) {k : Fin 4} {i : Nat} (hd : decode cc pc = .ok (.astore_n k, 1)) (hi : (k : Nat) = i) (hn : i < nL) (hF : (i, Value.null) :: L.filter (fun q => !(q.1 == i) && !(q.1 + 1 == i && q.2.category == 2)) = L') (kk : z_t D cI cJ cM cS n0 p l e R s m args below meth c nL Q cells slots (pc + 1) L' st σ) : z_t D cI cJ cM cS n0 p l e R s m args below meth c nL Q cells slots pc L (.null :: st) σ := fun hN => fun H locs ls hl hR hS => lv_astore_nN hX.1.1 hX.1.2.1 hd hi hl hn hF (fun ls hl => kk hN H locs ls hl hR hS)
theorem zt_ifnullN (hX : z_X D cI cJ cM cS p s m args c cc nL own) {off : Int} {tgt : Nat} (hd : decode cc pc = .ok (.ifnull off, 3)) (ht : (pc : Int) + off = (tgt : Int)) (kk : z_t D cI cJ cM cS n0 p l e R s m args below meth c nL Q cells slots tgt L st σ) : z_t D cI cJ cM cS n0 p l e R s m args below meth c nL Q cells slots pc L (.null :: st) σ := fun hN => fun H locs ls hl hR hS => lv_ifnullN hX.1.1 hX.1.2.1 hd ht (kk hN H locs ls hl hR hS)
theorem zt_ifnonnullN (hX : z_X D cI cJ cM cS p s m args c cc nL own) {off : Int} (hd : decode cc pc = .ok (.ifnonnull off, 3)) (kk : z_t D cI cJ cM cS n0 p l e R s m args below meth c nL Q cells slots (pc + 3) L st σ) : z_t D cI cJ cM cS n0 p l e R s m args below meth c nL Q cells slots pc L (.null :: st) σ := fun hN => fun H locs ls hl hR hS => lv_ifnonnullN hX.1.1 hX.1.2.1 hd (kk hN H locs ls hl hR hS)
theorem zt_ifnull (hX : z_X D cI cJ cM cS p s m args c cc nL own) {x : Nat} {off : Int} (hd : decode cc pc = .ok (.ifnull off, 3)) (kk : z_t D cI cJ cM cS n0 p l e R s m args below meth c nL Q cells slots (pc + 3) L st σ) : z_t D cI cJ cM cS n0 p l e R s m args below meth c nL Q cells slots pc L (.ref x :: st) σ := fun hN => fun H locs ls hl hR hS => lv_ifnull hX.1.1 hX.1.2.1 hd (kk hN H locs ls hl hR hS)
theorem zt_ifnonnull (hX : z_X D cI cJ cM cS p s m args c cc nL own) {x : Nat} {off : Int} {tgt : Nat} (hd : decode cc pc = .ok (.ifnonnull off, 3)) (ht : (pc : Int) + off = (tgt : Int)) (kk : z_t D cI cJ cM cS n0 p l e R s m args below meth c nL Q cells slots tgt L st σ) : z_t D cI cJ cM cS n0 p l e R s m args below meth c nL Q cells slots pc L (.ref x :: st) σ := fun hN => fun H locs ls hl hR hS => lv_ifnonnull hX.1.1 hX.1.2.1 hd ht (kk hN H locs ls hl hR hS)
theorem zu_get (hX : z_X D cI cJ cM cS p s m args c cc nL own) {k i : Nat} (hb : z_blk k σ) (j : Nat) (hj : j < 11) (hw : Cond.fieldLink own i RX4 (TX4 j).2.1 (TX4 j).2.2.1 ∈ z_ws) (hT : (TX4 j).1 = RX4) {v : Value} (hv : [Value.int (zg_i σ k 0), .int (zg_i σ k 1), .int (zg_i σ k 2), .int (zg_i σ k 3), .ref (n0 + (k + 1)), .ref (n0 + (k + 2)), .ref (n0 + (k + 3)), .ref (n0 + (k + 4)), .ref (n0 + (k + 5)), .ref (n0 + (k + 6)), .ref (n0 + (k + 17))][j]? = some v) (hd : decode cc pc = .ok (.getfield i, 3)) (kk : z_t D cI cJ cM cS n0 p l e R s m args below meth c nL Q cells slots (pc + 3) L (v :: st) σ) : z_t D cI cJ cM cS n0 p l e R s m args below meth c nL Q cells slots pc L (.ref (n0 + k) :: st) σ := fun hN => zr_get hX (ci := 4) (C := RX4) (T := TX4) (N := 11) rfl z_inX4 (z_blk_lt0 hb) (z_blk_E hb) j hj hw hT hv hd (kk hN)
theorem zu_puti (hX : z_X D cI cJ cM cS p s m args c cc nL own) {k i : Nat} (hb : z_blk k σ) (j : Nat) (hj : j < 11) (hw : Cond.fieldLink own i RX4 (TX4 j).2.1 (TX4 j).2.2.1 ∈ z_ws) (hT : (TX4 j).1 = RX4) (hj4 : j < 4) (hfin : (TX4 j).2.2.2 = false) {x : Int32} (hd0 : parseFieldDescriptor (TX4 j).2.2.1 = some .int) (hd : decode cc pc = .ok (.putfield i, 3)) (kk : z_t D cI cJ cM cS n0 p l e R s m args below meth c nL Q cells slots (pc + 3) L st (zs_i σ k j x)) : z_t D cI cJ cM cS n0 p l e R s m args below meth c nL Q cells slots pc L (.int x :: .ref (n0 + k) :: st) σ := fun hN => zr_put hX (ci := 4) (C := RX4) (T := TX4) (N := 11) rfl z_inX4 (z_blk_lt0 hb) (z_blk_E hb) j hj hw hT tyX4 tyX4_ok nmX4 hfin hd0 rfl rfl (by simp; omega) hd (z_wext (z_upoi (by
  have hb2 : z_blk k (zs_i σ k j x) := z_blk_eq hb rfl
  rw [z_blk_E hb2]
  rcases (show j = 0 ∨ j = 1 ∨ j = 2 ∨ j = 3 by omega) with rfl | rfl | rfl | rfl <;> simp [zg_i_si])) (kk hN))
theorem zu_aaloadM (hX : z_X D cI cJ cM cS p s m args c cc nL own) {k j len : Nat} {i : Int32} (hb : z_blk k σ) (hd : decode cc pc = .ok (.aaload, 1)) (hj : j < 26) (hs : z_sh (1 + j) = (12, len)) (hi : vp_in i len) (kk : z_t D cI cJ cM cS n0 p l e R s m args below meth c nL Q cells slots (pc + 1) L (.ref (n0 + (k + (j + 1 + i.toNatClampNeg))) :: st) σ) : z_t D cI cJ cM cS n0 p l e R s m args below meth c nL Q cells slots pc L (.int i :: .ref (n0 + (k + j)) :: st) σ := fun hN => zr_aaloadM hX hd (z_blk_lt hb hj) (z_E12 (z_blk_sh hb hj hs)) hi (by rw [show k + j + 1 + i.toNatClampNeg = k + (j + 1 + i.toNatClampNeg) by omega]) (kk hN)
def z_Bg (D : va_G) (cI cJ cM cS : ClassId) (n0 n : Nat) (h : Nat → va_E) (U : State) : Prop := z_H D n0 n h U.heap ∧ z_K D cI cJ cM cS U ∧ z_N U
def z_cg (l : Launch) (D : va_G) (cI cJ cM cS : ClassId) (n0 : Nat) (y : MethodName) (b : ByteArray) (nL : Nat) (rm : Room) (mc ms : Nat) (av : List Value) (n : Nat) (h : Nat → va_E) (n1 : Nat) (h1 : Nat → va_E) : Prop :=
  Met l y (.code y b nL none :: z_ws) rm (va_Pc av (z_Bg D cI cJ cM cS n0 n h)) (va_Qv (fun _ : Unit => True) (fun _ t => z_H D n0 n1 h1 t.heap) (z_Ab n0)) mc ms (z_Ab n0)
theorem z_ofg {y : MethodName} {b : ByteArray} {maxL : Nat} {rm : Room} {mc ms n n1 : Nat} {av : List Value} {h h1 : Nat → va_E} (hy : plainName y.cls = true) (hlen : (lg_sl av).length ≤ maxL) (body : ∀ (p : Program) (e : Env) (s : State) (m : MethodId) (args : Array Value) (below : List Frame) (meth : Method) (c : Code), z_X D cI cJ cM cS p s m args c b maxL y.cls → z_Y s meth none → meth.name = y.name → z_w D n0 p l e rm s m args below meth c maxL (MQ below (va_Qv (fun _ : Unit => True) (fun _ t => z_H D n0 n1 h1 t.heap) (z_Ab n0)) args s mc ms (z_Ab n0)) 0 0 0 (lv_args 0 av) [] n h) : z_cg l D cI cJ cM cS n0 y b maxL rm mc ms av n h n1 h1 := by
  refine Met.ofW (cc := b) (maxL := maxL) (ret := none) hy rfl ?_
  intro p e s m args below meth c s₁ B hml hv
  obtain ⟨rfl, hR, hK, hZ⟩ := hv
  have hts := atoms_spec (ws := .code y b maxL none :: z_ws) B.pre
  have hl := lv_entry av (n := maxL) hlen
  rw [lg_entry_eq]
  exact body p e s m _ below meth c ⟨⟨B.exec, B.bytes, hml, findClass_of_methodNamed B.named, fun w h => hts w (List.mem_cons_of_mem _ h)⟩, hK⟩ ⟨hZ, B.returns, B.notSynchronized⟩ (name_of_methodNamed B.named B.method).1 s.heap [] _ hl hR va_S.rf
theorem zr_vret {n : Nat} {h : Nat → va_E} (hX : z_X D cI cJ cM cS p s m args c cc nL own) (hY : z_Y s meth none) (hd : decode cc pc = .ok (.return_, 1)) {n1 : Nat} {h1 : Nat → va_E} (hn : n = n1) (hh : ∀ k, k < n1 → h1 k = h k) : z_w D n0 p l e R s m args below meth c nL (MQ below (va_Qv (fun _ : Unit => True) (fun _ t => z_H D n0 n1 h1 t.heap) (z_Ab n0)) args s cells slots (z_Ab n0)) cells slots pc L [] n h := fun H locs ls hl hR hS => by
  subst hn
  exact W.vret hX.1.1 hX.1.2.1 hY.2.1 (fun t ht hW => ⟨⟨(), rfl, trivial, by show z_H _ _ _ _ t.heap; rw [ht]; exact z_H_ext hR hh⟩, hS.F ht⟩) hS.2.2 hd hY.2.2
theorem zr_callg {n n1 : Nat} {h h1 : Nat → va_E} {y : MethodName} {b : ByteArray} {maxL i mc ms k : Nat} {rm : Room} {ro : Option FieldType} (hX : z_X D cI cJ cM cS p s m args c cc nL own) (hY : z_Y s meth ro) (hM : z_cg l D cI cJ cM cS n0 y b maxL rm mc ms [.ref (n0 + k)] n h n1 h1) (hd : decode cc pc = .ok (.invokespecial i, 3)) (hini : y.name = "<init>") (w1 : Cond.methodLink own i y ∈ z_ws) (w2 : Cond.instanceMethod y ∈ z_ws) (w4 : Cond.initialized y.cls ∈ z_ws) (hrm : rm.cells = mc ∧ rm.slots = ms) (hy : y.cls ≠ "java/lang/invoke/MethodHandle" ∧ y.cls ≠ "java/lang/invoke/VarHandle" ∧ (parseMethodDescriptor y.desc).map (fun d => d.parameters.length) = some 0) (w5 : Cond.code y b maxL none ∈ z_ws) (hroom : rm.frames + 1 ≤ R.frames ∧ 8 + (maxL + 11) + rm.locals ≤ R.locals) (hcs : cells + mc ≤ R.cells ∧ slots + ms ≤ R.slots) (hcat : (st.map fun v => v.category).sum ≤ 8) (kk : z_w D n0 p l e R s m args below meth c nL Q (cells + mc) (slots + ms) (pc + 3) L st n1 h1) : z_w D n0 p l e R s m args below meth c nL Q cells slots pc L (.ref (n0 + k) :: st) n h := fun H locs ls hl hR hS => by
  have hts := hX.1.2.2.2.2
  have hG : GoodIn z_ws (.code y b maxL none :: z_ws) := fun w hw => by
    rcases List.mem_cons.mp hw with rfl | h
    · exact z_good w5
    · exact z_good h
  exact va_callv (va_runI (As := []) (rest := st) hX.1 hM ⟨callB_of 0 hts hG rfl hrm.1 hrm.2 (hts _ w4) (hts _ w1) hy hroom, hini, hts _ w2⟩ ⟨fun a U g mk q => ⟨q.1, q.2.1, z_K_moved (u := U) (U := U.calling g mk a) (Vm.Alike.refl U.vm) q.2.2.1, z_N_call (rfl : U.vm = (U.calling g mk a).vm) q.2.2.2⟩, fun U hU hW => ⟨rfl, by rw [hU]; exact hR, z_K_moved hW.alike hX.2, z_N_warm hW hY.1⟩⟩ rfl rfl hl.1 rfl (lv_room hcat) hd hcs) hS (fun q _ h => h) (fun q h => h) (fun u t H1 locs1 ht hvm hw hB hz hk9 hS1 => kk H1 locs1 ls hl (by rw [← ht]; exact hB) hS1)
theorem zr_wid {n : Nat} {h : Nat → va_E} {c1 s1 : Nat} (h1 : cells ≤ c1) (h2 : slots ≤ s1) (kk : z_w D n0 p l e R s m args below meth c nL Q c1 s1 pc L st n h) : z_w D n0 p l e R s m args below meth c nL Q cells slots pc L st n h := fun H locs ls hl hR hS => W.widen h1 h2 (kk H locs ls hl hR hS)
theorem zr_L {n : Nat} {h : Nat → va_E} (hL : L = L') (kk : z_w D n0 p l e R s m args below meth c nL Q cells slots pc L' st n h) : z_w D n0 p l e R s m args below meth c nL Q cells slots pc L st n h := hL ▸ kk
theorem zb6 {i : Nat} (h : i < 10) : z_sh (1 + (6 + 1 + i)) = (10, 13) := by rw [show 1 + (6 + 1 + i) = 8 + i by omega]; exact z_sh8 h
theorem zb17 {i : Nat} (h : i < 8) : z_sh (1 + (17 + 1 + i)) = (10, 10) := by rw [show 1 + (17 + 1 + i) = 19 + i by omega]; exact z_sh19 h
theorem zl6 {i : Nat} (h : i < 10) : 6 + 1 + i < 26 := by omega
theorem zl17 {i : Nat} (h : i < 8) : 17 + 1 + i < 26 := by omega
theorem zt_callNest (hX : z_X D cI cJ cM cS p s m args c cc nL own) {ro : Option FieldType} {mc ms : Nat} {rm : Room} {x : Int32} (hY : z_Y s meth ro) {Qc : Int32 → z_S → Prop} (hM : z_ci l D cI cJ cM cS n0 yX5_isBoundary cX5_isBoundary 1 .boolean rm mc ms [.int x] σ Qc) (hown : own = RX3) (hd : decode cc pc = .ok (.invokestatic 75, 3)) (w2 : Cond.static yX5_isBoundary ∈ z_ws) (w4 : Cond.initialized RX5 ∈ z_ws) (w5 : Cond.code yX5_isBoundary cX5_isBoundary 1 (some .boolean) ∈ z_ws) (hrm : rm.cells = mc ∧ rm.slots = ms) (hy : yX5_isBoundary.cls ≠ "java/lang/invoke/MethodHandle" ∧ yX5_isBoundary.cls ≠ "java/lang/invoke/VarHandle" ∧ (parseMethodDescriptor yX5_isBoundary.desc).map (fun d => d.parameters.length) = some 1) (hroom : rm.frames + 1 ≤ R.frames ∧ 8 + (1 + 11) + rm.locals ≤ R.locals) (hcs : cells + mc ≤ R.cells ∧ slots + ms ≤ R.slots) (hcat : (st.map fun v => v.category).sum ≤ 8) (kk : ∀ (r : Int32) (σ1 : z_S), Qc r σ1 → z_t D cI cJ cM cS n0 p l e R s m args below meth c nL Q (cells + mc) (slots + ms) (pc + 3) L (.int r :: st) σ1) : z_t D cI cJ cM cS n0 p l e R s m args below meth c nL Q cells slots pc L (.int x :: st) σ := fun hN H locs ls hl hR hS => by
  subst hown
  have hts := hX.1.2.2.2.2
  have hG : GoodIn z_ws (.code yX5_isBoundary cX5_isBoundary 1 (some .boolean) :: z_ws) := fun w hw => by
    rcases List.mem_cons.mp hw with rfl | h
    · exact z_good w5
    · exact z_good h
  exact va_calli (va_runSN (As := [.int x]) (rest := st) hX.1 hM ⟨va_cnB 1 hts hG rfl hrm.1 hrm.2 hY.1.1 (hts _ w4) hy hroom, hts _ w2, trivial⟩ ⟨z_blind, z_pre hN hR hX.2 hY.1 _⟩ rfl rfl hl.1 rfl (lv_room hcat) hd hcs) hS (fun q _ h => h) (fun q h => h) (fun r u t H1 locs1 ht hvm hw hB hz hk9 hS1 => kk r u hw hB.1 H1 locs1 ls hl (by rw [← ht]; exact hB.2) hS1)
theorem zt_callvB (hX : z_X D cI cJ cM cS p s m args c cc nL own) {ro : Option FieldType} {y : MethodName} {b : ByteArray} {maxL mc ms i k : Nat} {rm : Room} {av st0 : List Value} (hY : z_Y s meth ro) {Qc : z_S → Prop} (hM : z_cv l D cI cJ cM cS n0 y b maxL rm mc ms (.ref (n0 + k) :: av) σ Qc) (hd : decode cc pc = .ok (.invokevirtual i, 3)) (hst : st0 = av.reverse ++ .ref (n0 + k) :: st) (w1 : Cond.methodLink own i y ∈ z_ws) (w2 : Cond.instanceMethod y ∈ z_ws) (w3 : Cond.selects y.cls y y ∈ z_ws) (w4 : Cond.initialized y.cls ∈ z_ws) (w5 : Cond.code y b maxL none ∈ z_ws) (hrm : rm.cells = mc ∧ rm.slots = ms) (hy : y.cls ≠ "java/lang/invoke/MethodHandle" ∧ y.cls ≠ "java/lang/invoke/VarHandle" ∧ (parseMethodDescriptor y.desc).map (fun d => d.parameters.length) = some av.length) (hroom : rm.frames + 1 ≤ R.frames ∧ 8 + (maxL + 11) + rm.locals ≤ R.locals) (hcs : cells + mc ≤ R.cells ∧ slots + ms ≤ R.slots) (hcat : (st.map fun v => v.category).sum ≤ 8) (hb : z_blk k σ) (hC : RX4 = y.cls) (kk : ∀ (σ1 : z_S), Qc σ1 → z_t D cI cJ cM cS n0 p l e R s m args below meth c nL Q (cells + mc) (slots + ms) (pc + 3) L st σ1) : z_t D cI cJ cM cS n0 p l e R s m args below meth c nL Q cells slots pc L st0 σ := fun hN H locs ls hl hR hS => by
  subst hst
  exact va_callv (va_runV (As := av) (rest := st) hX.1 hM (cwV av.length hX.1.2.2.2.2 (z_gV w1 w2 w3 w4 w5) rfl hrm.1 hrm.2 ⟨rfl, hy⟩ hroom) ⟨z_blind, by have h := va_recv hX.2 (z_H_P hR) (q0 := k) (ci := 4) rfl (by rw [z_W_get (z_blk_lt0 hb), z_blk_E hb]); rw [← hC]; exact h, z_pre hN hR hX.2 hY.1 _⟩ rfl rfl hl.1 rfl (lv_room hcat) hd hcs) hS (fun q _ h => h) (fun q h => h) (fun u t H1 locs1 ht hvm hw hB hz hk9 hS1 => kk u hw hB.1 H1 locs1 ls hl (by rw [← ht]; exact hB.2) hS1)
/-- what a new state's places hold, from n on -/
def z_st0 (n0 n : Nat) (cI cJ cM cS : ClassId) (h : Nat → va_E) : Nat → va_E := fun k => if k < n then h k else z_Ec n0 cI cJ cM cS (z_sh (1 + (k - n))) k (fun j => if k = n ∧ j = 1 then 5 else if k = n ∧ j = 2 then 50 else 0) (fun _ => 0) (fun _ => none)
/-- the state with a new State behind its places -/
def zs_new (σ : z_S) : z_S := (fun a b => if zg_n σ ≤ a then (if a = zg_n σ ∧ b = 1 then 5 else if a = zg_n σ ∧ b = 2 then 50 else 0) else σ.1 a b, fun a b => if zg_n σ ≤ a then 0 else σ.2.1 a b, σ.2.2.1, zg_n σ + 26)
theorem z_st0_E (hsh : ∀ j, j < 26 → z_sh (zg_n σ + j) = z_sh (1 + j)) (k : Nat) (hk : k < zg_n σ + 26) : z_E n0 cI cJ cM cS (zs_new σ) k = z_st0 n0 (zg_n σ) cI cJ cM cS (z_E n0 cI cJ cM cS σ) k := by
  unfold z_st0
  by_cases h1 : k < zg_n σ
  · rw [if_pos h1]
    unfold z_E
    rw [show zg_i (zs_new σ) k = zg_i σ k from funext fun b => if_neg (by omega), show zg_l (zs_new σ) k = zg_l σ k from funext fun b => if_neg (by omega)]
    rfl
  · rw [if_neg h1]
    obtain ⟨j, rfl⟩ := Nat.exists_eq_add_of_le (Nat.not_lt.mp h1)
    have hj : j < 26 := by omega
    have hs := hsh j hj
    unfold z_E
    rw [hs, Nat.add_sub_cancel_left, show zg_i (zs_new σ) (zg_n σ + j) = fun b => if zg_n σ + j = zg_n σ ∧ b = 1 then 5 else if zg_n σ + j = zg_n σ ∧ b = 2 then 50 else 0 from funext fun b => if_pos (by omega), show zg_l (zs_new σ) (zg_n σ + j) = fun _ => 0 from funext fun b => if_pos (by omega)]
    have h13 : (z_sh (1 + j)).1 ≠ 13 := (show ∀ j, j < 26 → (z_sh (1 + j)).1 ≠ 13 by decide +kernel) j hj
    generalize z_sh (1 + j) = t at h13 ⊢
    obtain ⟨t1, t2⟩ := t
    simp only at h13
    unfold z_Ec
    split <;> first | rfl | (exfalso; simp_all)
theorem zr_nmh {n : Nat} {h : Nat → va_E} (kk : ∀ h1 : Nat → va_E, h1 = h → z_w D n0 p l e R s m args below meth c nL Q cells slots pc L st n h1) : z_w D n0 p l e R s m args below meth c nL Q cells slots pc L st n h := kk h rfl
theorem zr_getR {n k i : Nat} {h : Nat → va_E} {ci N j : Nat} {C : String} {T : u_T} {fs : List Value} {v : Value} (hX : z_X D cI cJ cM cS p s m args c cc nL own) (hc : vwCl[ci]? = some (C, T, N)) (hin : ∀ w ∈ u_ws C T N, w ∈ z_ws) (hk : k < n) (he : h k = .inr (ci, fs)) (hj : j < N) (hw : Cond.fieldLink own i C (T j).2.1 (T j).2.2.1 ∈ z_ws) (hT : (T j).1 = C) (hv : fs[j]? = some v) (hd : decode cc pc = .ok (.getfield i, 3)) (kk : z_w D n0 p l e R s m args below meth c nL Q cells slots (pc + 3) L (v :: st) n h) : z_w D n0 p l e R s m args below meth c nL Q cells slots pc L (.ref (n0 + k) :: st) n h := zr_get hX hc hin hk he j hj hw hT hv hd kk
theorem kw_78 : Cond.code Lib.objectInit ⟨#[0xb1]⟩ 1 none ∈ z_ws := z_in 78 (by decide +kernel) rfl
theorem z_ofiF {y : MethodName} {b : ByteArray} {maxL : Nat} {rt : FieldType} {rm : Room} {mc ms : Nat} {av : List Value} {Qc : Int32 → z_S → Prop} (hy : plainFor y = true) (hlen : (lg_sl av).length ≤ maxL) (body : ∀ (p : Program) (e : Env) (s : State) (m : MethodId) (args : Array Value) (below : List Frame) (meth : Method) (c : Code), z_X D cI cJ cM cS p s m args c b maxL y.cls → z_Y s meth (some rt) → z_t D cI cJ cM cS n0 p l e rm s m args below meth c maxL (MQ below (va_Qi Qc (fun u t => z_Bq D cI cJ cM cS n0 u t) (z_Ab n0)) args s mc ms (z_Ab n0)) 0 0 0 (lv_args 0 av) [] σ) : z_ci l D cI cJ cM cS n0 y b maxL rt rm mc ms av σ Qc := by
  refine va_MetF (cc := b) (maxL := maxL) (ret := (some rt)) hy rfl ?_
  intro p e s m args below meth c s₁ B hml hv
  obtain ⟨rfl, hN, hR, hK, hZ⟩ := hv
  have hts := atoms_spec (ws := .code y b maxL (some rt) :: z_ws) B.pre
  have hl := lv_entry av (n := maxL) hlen
  rw [lg_entry_eq]
  exact body p e s m _ below meth c ⟨⟨B.exec, B.bytes, hml, findClass_of_methodNamed B.named, fun w h => hts w (List.mem_cons_of_mem _ h)⟩, hK⟩ ⟨hZ, B.returns, B.notSynchronized⟩ hN s.heap [] _ hl hR va_S.rf
end ZP1
