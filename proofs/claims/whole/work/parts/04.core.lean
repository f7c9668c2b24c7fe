/-! The system's cells lie one behind another from n0 on: place k is the cell n0 + k. A heap of n places is a function from places to entries. -/
section ZC0
def z_up (h : Nat → va_E) (k : Nat) (e : va_E) : Nat → va_E := fun j => if j = k then e else h j
theorem z_up_at (h : Nat → va_E) (k : Nat) (e : va_E) : z_up h k e k = e := if_pos rfl
theorem z_up_ne (h : Nat → va_E) {k j : Nat} (e : va_E) (hj : j ≠ k) : z_up h k e j = h j := if_neg hj
def z_Ab (n0 : Nat) : Nat → Prop := fun q => n0 ≤ q
def z_W (n0 n : Nat) (h : Nat → va_E) : va_W := (List.range n).map (fun k => (n0 + k, h k))
def z_H (D : va_G) (n0 n : Nat) (h : Nat → va_E) (H : Heap) : Prop := H.size = n0 + n ∧ ∀ k : Nat, k < n → va_at D vwCl (n0 + k, h k) H
theorem z_W_get {n0 n k : Nat} {h : Nat → va_E} (hk : k < n) : (z_W n0 n h)[k]? = some (n0 + k, h k) := by simp [z_W, hk]
theorem z_W_lt {n0 n k : Nat} {h : Nat → va_E} {q : Nat × va_E} (hq : (z_W n0 n h)[k]? = some q) : k < n ∧ q = (n0 + k, h k) := by
  have hk : k < n := by
    have := (List.getElem?_eq_some_iff.mp hq).1
    simpa [z_W] using this
  rw [z_W_get hk] at hq
  exact ⟨hk, (Option.some.inj hq).symm⟩
theorem z_H_P {D : va_G} {n0 n : Nat} {h : Nat → va_E} {H : Heap} (hR : z_H D n0 n h H) : va_P D vwCl (z_W n0 n h) H := fun k q hq => by
  obtain ⟨hk, rfl⟩ := z_W_lt hq
  exact hR.2 k hk
theorem z_H_D (n0 n : Nat) (h : Nat → va_E) : va_D (z_Ab n0) (z_W n0 n h) := by
  refine ⟨fun i j p q hi hj hpq => ?_, fun k q hq => ?_⟩
  · obtain ⟨-, rfl⟩ := z_W_lt hi
    obtain ⟨-, rfl⟩ := z_W_lt hj
    simp only at hpq
    omega
  · obtain ⟨-, rfl⟩ := z_W_lt hq
    exact Nat.le_add_right _ _
theorem z_H_ext {D : va_G} {n0 n : Nat} {h h' : Nat → va_E} {H : Heap} (hR : z_H D n0 n h H) (he : ∀ k : Nat, k < n → h' k = h k) : z_H D n0 n h' H := ⟨hR.1, fun k hk => by rw [he k hk]; exact hR.2 k hk⟩
theorem z_H_put {D : va_G} {n0 n k : Nat} {h : Nat → va_E} {e : va_E} {H H1 : Heap} (hR : z_H D n0 n h H) (he : va_at D vwCl (n0 + k, e) H1) (z : H1.size = H.size) (oq : ∀ q : Nat, q ≠ n0 + k → H1[q]? = H[q]?) : z_H D n0 n (z_up h k e) H1 := by
  refine ⟨by rw [z]; exact hR.1, fun j hj => ?_⟩
  by_cases hjk : j = k
  · subst hjk
    rw [z_up_at]
    exact he
  · rw [z_up_ne _ _ hjk]
    exact (hR.2 j hj).kept (oq _ (by simp only; omega))
/-- a new cell -/
theorem z_H_new {D : va_G} {n0 n : Nat} {h : Nat → va_E} {e : va_E} {H H1 : Heap} (hR : z_H D n0 n h H) (he : va_at D vwCl (n0 + n, e) H1) (z : H1.size = H.size + 1) (oq : ∀ q : Nat, q < H.size → H1[q]? = H[q]?) : z_H D n0 (n + 1) (z_up h n e) H1 := by
  refine ⟨by rw [z, hR.1]; rfl, fun j hj => ?_⟩
  by_cases hjk : j = n
  · subst hjk
    rw [z_up_at]
    exact he
  · rw [z_up_ne _ _ hjk]
    exact (hR.2 j (by omega)).kept (oq _ (by simp only; rw [hR.1]; omega))
/-- the array classes that occur: int[], long[], int[][], State[] -/
def z_tys (cI cJ cM cS : ClassId) : List (ClassId × FieldType) := [(cI, .int), (cJ, .long), (cM, .array .int), (cS, .object "MeterTree$State")]
def z_K (D : va_G) (cI cJ cM cS : ClassId) (U : State) : Prop := va_K D vwCl (z_tys cI cJ cM cS) U
theorem z_K_moved {D : va_G} {cI cJ cM cS : ClassId} {u U : State} (hvm : u.vm.Alike U.vm) (h : z_K D cI cJ cM cS u) : z_K D cI cJ cM cS U := va_K.moved hvm h
/-- what is the same all along a method's walk -/
def z_X (D : va_G) (cI cJ cM cS : ClassId) (p : Program) (s : State) (m : MethodId) (args : Array Value) (c : Code) (cc : ByteArray) (nL : Nat) (own : String) : Prop :=
  (p.tables.exec = Jvm.exec ∧ c.code = cc ∧ c.maxLocals = nL ∧ s.vm.findClass own = some m.cls ∧ ∀ w ∈ z_ws, w.before args s = true) ∧ z_K D cI cJ cM cS s
/-- at pc, with these locals, this stack, this heap: the machine comes to Q -/
def z_w (D : va_G) (n0 : Nat) (p : Program) (l : Launch) (e : Env) (R : Room) (s : State) (m : MethodId) (args : Array Value) (below : List Frame) (meth : Method) (c : Code) (nL : Nat) (Q : State → Prop) (cells slots pc : Nat) (L : List (Nat × Value)) (st : List Value) (n : Nat) (h : Nat → va_E) : Prop :=
  ∀ (H : Heap) (locs : List Loc) (ls : Array Slot), lv_has ls nL L → z_H D n0 n h H → va_S (z_Ab n0) s.heap H locs → W p l e R s m args below meth c H locs cells slots Q (F0 m pc ls st)
/-- the facts of the tables that no word hands on: the nest mate's link, int[][] as a class -/
def z_N (U : State) : Prop := va_Nw (.methodLinkNest RX3 75 yX5_isBoundary RX5) U ∧ (Cond.arrayOver (.array .int)).before #[] U = true ∧ va_AO "MeterTree$State" U
theorem z_AO_moved {u U : State} (hvm : u.vm.Alike U.vm) (h : (Cond.arrayOver (.array .int)).before #[] u = true) : (Cond.arrayOver (.array .int)).before #[] U = true := by
  obtain ⟨comp, c, k, h1, h2, h3, h4, h5⟩ := arrayOverA_spec h
  obtain ⟨k', hk', he⟩ := hvm.2.2 _ _ h3
  have hi : (U.vm.classes.findIdx? fun (x : Class) => match x.kind with | .array component _ => component == comp | _ => false) = some c := by
    refine (va_idx_bare U.vm comp).symm.trans ?_
    first | rw [hvm.bare_eq] | rw [← hvm.bare_eq]
    exact (va_idx_bare u.vm comp).trans h2
  have hkind : k'.kind = .array comp (.array .int) := by rw [he]; exact h4
  have f1 : U.vm.findClass (FieldType.array .int).toString = some comp := by rw [hvm.findClass]; exact h1
  have f2 : U.vm.findClass ("[" ++ (FieldType.array .int).toString) = some c := by rw [hvm.findClass]; exact h5
  unfold Cond.before Cond.holds
  simp only [Cond.value]
  rw [f1, Option.bind_some]
  refine (congrArg (fun o : Option Nat => (o.bind (fun c => (U.vm.classes[c]?).map fun (k : Class) => match k.kind with | .array _ ty => decide (ty = FieldType.array .int) && decide (U.vm.findClass ("[" ++ (FieldType.array .int).toString) = some c) | _ => false) == some true)) hi).trans ?_
  simp [hk', hkind, f2]
theorem z_N_warm {s U : State} (hW : s.WarmedH U.vm) (h : z_N s) : z_N U := ⟨va_Nw.warmM hW h.1, z_AO_moved hW.alike h.2.1, h.2.2.moved hW.alike⟩
theorem z_N_call {U U2 : State} (hv : U.vm = U2.vm) (h : z_N U) : z_N U2 := ⟨va_tabs rfl hv h.1, z_AO_moved (by rw [hv]; exact Vm.Alike.refl _) h.2.1, h.2.2.moved (by rw [hv]; exact Vm.Alike.refl _)⟩
end ZC0
