/-! the tree: children, the child with an index, how many above -/
def z_kd (f : Nat → Int32) (m : Nat) : Nat → Nat → List Nat
  | 0, _ => []
  | d + 1, i => if f (4 + 18 * i) = nI m then i :: z_kd f m d (i + 1) else z_kd f m d (i + 1)
def z_kids (f : Nat → Int32) (c m : Nat) : List Nat := z_kd f m (c - (m + 1)) (m + 1)
theorem z_nI_none {w : Nat} (hw : w < 2 ^ 31) : nI w ≠ zNONE := fun q => by
  have := Int32.toInt_inj.mpr q
  rw [nI_toInt (by omega), show zNONE.toInt = -2000000000 by decide] at this
  omega
theorem z_nI_bad {w : Nat} (hw : w < 2 ^ 31) : nI w ≠ -2000000001 := fun q => by
  have := Int32.toInt_inj.mpr q
  rw [nI_toInt (by omega), show (-2000000001 : Int32).toInt = -2000000001 by decide] at this
  omega
theorem z_np {f : Nat → Int32} {c m k : Nat} (h : z_fine f c) (hk : k ≤ m) (hkc : k < c) (hm : m < 10) : f (4 + 18 * k) ≠ nI m := by
  intro q
  cases k with
  | zero =>
    rw [h.2.2.2.2.2.1 hkc] at q
    exact z_nI_none (by omega) q.symm
  | succ k =>
    obtain ⟨p, hp, e⟩ := h.2.2.2.2.2.2.1 (k + 1) (by omega) hkc
    rw [e] at q
    have := (nI_eq (by omega) (by omega)).mp q
    omega
theorem z_kd_skip {f : Nat → Int32} {c m : Nat} (h : z_fine f c) (hm : m < c) : ∀ j i, i + j = m + 1 → z_kd f m (c - i) i = z_kids f c m := by
  have h10 := h.1
  intro j
  induction j with
  | zero =>
    intro i hi
    obtain rfl : i = m + 1 := by omega
    rfl
  | succ j ih =>
    intro i hi
    rw [← ih (i + 1) (by omega), show c - i = (c - (i + 1)) + 1 by omega]
    show (if f (4 + 18 * i) = nI m then _ else _) = _
    rw [if_neg (z_np h (by omega) (by omega) (by omega))]
theorem z_kd_mem {f : Nat → Int32} {m k : Nat} : ∀ d i, k ∈ z_kd f m d i → i ≤ k ∧ k < i + d ∧ f (4 + 18 * k) = nI m := by
  intro d
  induction d with
  | zero =>
    intro i hk
    exact absurd hk (List.not_mem_nil)
  | succ d ih =>
    intro i hk
    unfold z_kd at hk
    by_cases e : f (4 + 18 * i) = nI m
    · rw [if_pos e] at hk
      rcases List.mem_cons.mp hk with rfl | hk
      · exact ⟨Nat.le_refl _, by omega, e⟩
      · obtain ⟨a, b, g⟩ := ih _ hk
        exact ⟨by omega, by omega, g⟩
    · rw [if_neg e] at hk
      obtain ⟨a, b, g⟩ := ih _ hk
      exact ⟨by omega, by omega, g⟩
theorem z_kids_mem {f : Nat → Int32} {c m k : Nat} (hk : k ∈ z_kids f c m) : m < k ∧ k < c ∧ f (4 + 18 * k) = nI m := by
  obtain ⟨a, b, g⟩ := z_kd_mem _ _ hk
  exact ⟨by omega, by omega, g⟩
theorem z_kd_len (f : Nat → Int32) (m : Nat) : ∀ d i, (z_kd f m d i).length ≤ d := by
  intro d
  induction d with
  | zero => intro i; exact Nat.le_refl _
  | succ d ih =>
    intro i
    unfold z_kd
    have := ih (i + 1)
    split
    · rw [List.length_cons]
      omega
    · omega
theorem z_kids_len (f : Nat → Int32) (c m : Nat) : (z_kids f c m).length ≤ c := Nat.le_trans (z_kd_len f m _ _) (by omega)
theorem l_rc_ch {f : Nat → Int32} {c m : Nat} {σ : z_S} {Q : Int32 → z_S → Prop} (h : z_rc f c σ) : ∀ (d i n : Nat), i + d = c → d < n → ∀ a, Q (nI (a + (z_kd f m d i).length)) σ → w_X4_countChildren_6 Q n (nI m) (nI a) (nI i) σ := by
  have h10 := h.2.1
  intro d
  induction d with
  | zero =>
    intro i n hi hn a hq
    obtain ⟨n, rfl⟩ : ∃ k, n = k + 1 := ⟨n - 1, by omega⟩
    obtain rfl : i = c := by omega
    show wb_X4_countChildren_6 Q (w_X4_countChildren_6 Q n) _ _ _ _
    unfold wb_X4_countChildren_6
    rw [rc_cnt h]
    exact z_ifp (nI_le (Nat.le_refl i) (by omega)) hq
  | succ d ih =>
    intro i n hi hn a hq
    obtain ⟨n, rfl⟩ : ∃ k, n = k + 1 := ⟨n - 1, by omega⟩
    show wb_X4_countChildren_6 Q (w_X4_countChildren_6 Q n) _ _ _ _
    unfold wb_X4_countChildren_6
    rw [rc_cnt h, z_tn (by omega), rc_par h (by omega)]
    refine z_ifn (nI_ge (by omega) (by omega)) ⟨z_vin (by omega) (by omega), ?_⟩
    unfold z_kd at hq
    by_cases e : f (4 + 18 * i) = nI m
    · rw [if_pos e, List.length_cons] at hq
      refine z_ifp e ?_
      rintro _ rfl _ rfl
      rw [nI_1, nI_1]
      exact ih (i + 1) n (by omega) (by omega) (a + 1) (by rw [show a + 1 + (z_kd f m d (i + 1)).length = a + ((z_kd f m d (i + 1)).length + 1) by omega]; exact hq)
    · rw [if_neg e] at hq
      refine z_ifn e ?_
      rintro _ rfl
      rw [nI_1]
      exact ih (i + 1) n (by omega) (by omega) a hq
theorem rc_ch {f : Nat → Int32} {c m : Nat} {σ : z_S} {Q : Int32 → z_S → Prop} (h : z_rc f c σ) (hm : m < c) (hq : Q (nI (z_kids f c m).length) σ) : w_X4_countChildren (nI m) σ Q := by
  have h10 := h.2.1
  unfold w_X4_countChildren
  rintro _ rfl
  rw [nI_1]
  exact l_rc_ch h (c - (m + 1)) (m + 1) 400 (by omega) (by omega) 0 (by rw [Nat.zero_add]; exact hq)
theorem l_rm_ch {f : Nat → Int32} {c m : Nat} {σ : z_S} {Q : Int32 → z_S → Prop} (h : z_rm f c σ) : ∀ (d i n : Nat), i + d = c → d < n → ∀ a, Q (nI (a + (z_kd f m d i).length)) σ → w_X6_children_4 Q n (nI m) (nI a) (nI i) σ := by
  have h10 := h.2.1
  intro d
  induction d with
  | zero =>
    intro i n hi hn a hq
    obtain ⟨n, rfl⟩ : ∃ k, n = k + 1 := ⟨n - 1, by omega⟩
    obtain rfl : i = c := by omega
    show wb_X6_children_4 Q (w_X6_children_4 Q n) _ _ _ _
    unfold wb_X6_children_4
    rw [show (0 : Int32).toNatClampNeg = 0 from rfl, rm_cnt h]
    exact ⟨z_vin (i := 0) (by omega) (by omega), z_ifp (nI_le (Nat.le_refl i) (by omega)) hq⟩
  | succ d ih =>
    intro i n hi hn a hq
    obtain ⟨n, rfl⟩ : ∃ k, n = k + 1 := ⟨n - 1, by omega⟩
    show wb_X6_children_4 Q (w_X6_children_4 Q n) _ _ _ _
    unfold wb_X6_children_4
    rw [show (0 : Int32).toNatClampNeg = 0 from rfl, rm_cnt h]
    refine ⟨z_vin (i := 0) (by omega) (by omega), z_ifn (nI_ge (by omega) (by omega)) (rm_of (k := 0) h (by omega) (by omega) ?_)⟩
    unfold z_kd at hq
    by_cases e : f (4 + 18 * i) = nI m
    · rw [if_pos e, List.length_cons] at hq
      refine z_ifp e ?_
      rintro _ rfl _ rfl
      rw [nI_1, nI_1]
      exact ih (i + 1) n (by omega) (by omega) (a + 1) (by rw [show a + 1 + (z_kd f m d (i + 1)).length = a + ((z_kd f m d (i + 1)).length + 1) by omega]; exact hq)
    · rw [if_neg e] at hq
      refine z_ifn e ?_
      rintro _ rfl _ rfl
      rw [nI_1, Int32.add_zero]
      exact ih (i + 1) n (by omega) (by omega) a hq
theorem rm_ch {f : Nat → Int32} {c m : Nat} {σ : z_S} {Q : Int32 → z_S → Prop} (h : z_rm f c σ) (hm : m < c) (hq : Q (nI (z_kids f c m).length) σ) : w_X6_children (nI m) σ Q := by
  have h10 := h.2.1
  unfold w_X6_children
  exact l_rm_ch h (c - 1) 1 400 (by omega) (by omega) 0 (by rw [Nat.zero_add, z_kd_skip h.2 hm m 1 (by omega)]; exact hq)
/-! the child with an index -/
def z_nth : List Nat → Nat → Int32 → Option Nat
  | [], _, _ => none
  | k :: l, a, x => if nI a = x then some k else z_nth l (a + 1) x
def z_or (d : Int32) : Option Nat → Int32
  | none => d
  | some k => nI k
theorem z_nth_mem {k : Nat} {x : Int32} : ∀ (l : List Nat) (a : Nat), z_nth l a x = some k → k ∈ l := by
  intro l
  induction l with
  | nil =>
    intro a h
    unfold z_nth at h
    cases h
  | cons j l ih =>
    intro a h
    unfold z_nth at h
    by_cases e : nI a = x
    · rw [if_pos e] at h
      injection h with h
      rw [h]
      exact List.mem_cons_self
    · rw [if_neg e] at h
      exact List.mem_cons_of_mem _ (ih _ h)
theorem l_rc_fc {f : Nat → Int32} {c m : Nat} {x : Int32} {σ : z_S} {Q : Int32 → z_S → Prop} (h : z_rc f c σ) : ∀ (d i n : Nat), i + d = c → d < n → ∀ a, Q (z_or zNONE (z_nth (z_kd f m d i) a x)) σ → w_X4_findChild_7 Q n (nI m) x (nI a) (nI i) σ := by
  have h10 := h.2.1
  intro d
  induction d with
  | zero =>
    intro i n hi hn a hq
    obtain ⟨n, rfl⟩ : ∃ k, n = k + 1 := ⟨n - 1, by omega⟩
    obtain rfl : i = c := by omega
    show wb_X4_findChild_7 Q (w_X4_findChild_7 Q n) _ _ _ _ _
    unfold wb_X4_findChild_7
    rw [rc_cnt h]
    exact z_ifp (nI_le (Nat.le_refl i) (by omega)) hq
  | succ d ih =>
    intro i n hi hn a hq
    obtain ⟨n, rfl⟩ : ∃ k, n = k + 1 := ⟨n - 1, by omega⟩
    show wb_X4_findChild_7 Q (w_X4_findChild_7 Q n) _ _ _ _ _
    unfold wb_X4_findChild_7
    rw [rc_cnt h, z_tn (by omega), rc_par h (by omega)]
    refine z_ifn (nI_ge (by omega) (by omega)) ⟨z_vin (by omega) (by omega), ?_⟩
    unfold z_kd at hq
    by_cases e : f (4 + 18 * i) = nI m
    · rw [if_pos e] at hq
      unfold z_nth at hq
      refine z_ifp e ?_
      by_cases e2 : nI a = x
      · rw [if_pos e2] at hq
        exact z_ifp e2 hq
      · rw [if_neg e2] at hq
        refine z_ifn e2 ?_
        rintro _ rfl _ rfl
        rw [nI_1, nI_1]
        exact ih (i + 1) n (by omega) (by omega) (a + 1) hq
    · rw [if_neg e] at hq
      refine z_ifn e ?_
      rintro _ rfl
      rw [nI_1]
      exact ih (i + 1) n (by omega) (by omega) a hq
theorem rc_fc {f : Nat → Int32} {c m : Nat} {x : Int32} {σ : z_S} {Q : Int32 → z_S → Prop} (h : z_rc f c σ) (hm : m < c) (hq : Q (z_or zNONE (z_nth (z_kids f c m) 0 x)) σ) : w_X4_findChild (nI m) x σ Q := by
  have h10 := h.2.1
  unfold w_X4_findChild
  rintro _ rfl
  rw [nI_1]
  exact l_rc_fc h (c - (m + 1)) (m + 1) 400 (by omega) (by omega) 0 hq
theorem z_sub1 (x : Int32) (a : Nat) : x - nI a + -1 = x - nI (a + 1) := by
  rw [← nI_1, Int32.sub_eq_add_neg, Int32.sub_eq_add_neg, Int32.neg_add, Int32.sub_eq_add_neg, Int32.add_assoc]
theorem z_sub0 (x : Int32) (a : Nat) : x - nI a = 0 ↔ nI a = x := by
  constructor
  · intro h
    have : x - nI a + nI a = 0 + nI a := by rw [h]
    rw [Int32.sub_add_cancel, Int32.zero_add] at this
    exact this.symm
  · intro h
    rw [h]
    exact Int32.sub_self _
theorem l_rm_fc {f : Nat → Int32} {c m : Nat} {x : Int32} {σ : z_S} {Q : Int32 → z_S → Prop} (h : z_rm f c σ) : ∀ (d i n : Nat), i + d = c → d < n → ∀ a, Q (z_or (-2000000001) (z_nth (z_kd f m d i) a x)) σ → w_X6_childOf_5 Q n (nI m) (x - nI a) (nI i) σ := by
  have h10 := h.2.1
  intro d
  induction d with
  | zero =>
    intro i n hi hn a hq
    obtain ⟨n, rfl⟩ : ∃ k, n = k + 1 := ⟨n - 1, by omega⟩
    obtain rfl : i = c := by omega
    show wb_X6_childOf_5 Q (w_X6_childOf_5 Q n) _ _ _ _
    unfold wb_X6_childOf_5
    rw [show (0 : Int32).toNatClampNeg = 0 from rfl, rm_cnt h]
    exact ⟨z_vin (i := 0) (by omega) (by omega), z_ifp (nI_le (Nat.le_refl i) (by omega)) hq⟩
  | succ d ih =>
    intro i n hi hn a hq
    obtain ⟨n, rfl⟩ : ∃ k, n = k + 1 := ⟨n - 1, by omega⟩
    show wb_X6_childOf_5 Q (w_X6_childOf_5 Q n) _ _ _ _
    unfold wb_X6_childOf_5
    rw [show (0 : Int32).toNatClampNeg = 0 from rfl, rm_cnt h]
    refine ⟨z_vin (i := 0) (by omega) (by omega), z_ifn (nI_ge (by omega) (by omega)) (rm_of (k := 0) h (by omega) (by omega) ?_)⟩
    unfold z_kd at hq
    by_cases e : f (4 + 18 * i) = nI m
    · rw [if_pos e] at hq
      unfold z_nth at hq
      refine z_ifp e ?_
      by_cases e2 : nI a = x
      · rw [if_pos e2] at hq
        exact z_ifp ((z_sub0 x a).mpr e2) hq
      · rw [if_neg e2] at hq
        refine z_ifn (fun q => e2 ((z_sub0 x a).mp q)) ?_
        rintro _ rfl _ rfl
        rw [nI_1, z_sub1]
        exact ih (i + 1) n (by omega) (by omega) (a + 1) hq
    · rw [if_neg e] at hq
      refine z_ifn e ?_
      rintro _ rfl
      rw [nI_1]
      exact ih (i + 1) n (by omega) (by omega) a hq
theorem rm_fc {f : Nat → Int32} {c m : Nat} {x : Int32} {σ : z_S} {Q : Int32 → z_S → Prop} (h : z_rm f c σ) (hm : m < c) (hq : Q (z_or (-2000000001) (z_nth (z_kids f c m) 0 x)) σ) : w_X6_childOf (nI m) x σ Q := by
  have h10 := h.2.1
  unfold w_X6_childOf
  have := l_rm_fc (x := x) (Q := Q) h (c - 1) 1 400 (by omega) (by omega) 0 (by rw [z_kd_skip h.2 hm m 1 (by omega)]; exact hq)
  rw [show x - nI 0 = x from Int32.sub_zero x] at this
  exact this
theorem op_child {σ : z_S} {K : Int32 → Int32 → z_S → Prop} (a b : Int32) (h : z_Inv σ) (hK : ∀ r σ2, z_Inv σ2 → K r r σ2) : w_X5_child a b σ (fun r σ1 => w_X6_child a b σ1 (fun r2 σ2 => K r r2 σ2)) := by
  unfold w_X5_child w_X6_child
  refine op_gm (fun σ Q => w_X4_findChild a b σ (fun r4 σ5 => if r4 = (-2000000000 : Int32) then (Q (-2000000001 : Int32) σ5) else (Q r4 σ5))) (fun σ Q => w_X6_childOf a b σ Q) h ?_ hK
  rintro f c m hm rfl hf
  have h10 := hf.1
  refine ⟨z_or (-2000000001) (z_nth (z_kids f c m) 0 b), fun σ Q hr hq => rc_fc hr hm ?_, fun σ1 Q hr hq => rm_fc hr hm (hq σ1 (z_ms_rfl σ1))⟩
  have hq := hq σ (z_cs_rfl σ)
  cases e : z_nth (z_kids f c m) 0 b with
  | none =>
    rw [e] at hq
    exact z_ifp rfl hq
  | some k =>
    rw [e] at hq
    have hk := z_kids_mem (z_nth_mem _ _ e)
    exact z_ifn (z_nI_none (by omega)) hq
/-! how many above -/
theorem z_above {f : Nat → Int32} {c : Nat} (hf : z_fine f c) : ∀ (m : Nat), m < c → ∃ k, (∀ (a n : Nat) (σ : z_S) (Q : Int32 → z_S → Prop), z_rc f c σ → a + m < 10 → m < n → Q (nI (a + k)) σ → w_X4_countAbove_9 Q n (nI a) (f (4 + 18 * m)) σ) ∧ ∀ (a n : Nat) (σ : z_S) (Q : Int32 → z_S → Prop), z_rm f c σ → m < n → Q (nI (a + k)) σ → w_X6_above_4 Q n (nI a) (nI m) σ := by
  have h10 := hf.1
  intro m
  induction m using Nat.strongRecOn with
  | ind m ih =>
    intro hm
    by_cases e : m = 0
    · subst e
      refine ⟨0, fun a n σ Q hr ha hn hq => ?_, fun a n σ Q hr hn hq => ?_⟩
      · obtain ⟨n, rfl⟩ : ∃ k, n = k + 1 := ⟨n - 1, by omega⟩
        show wb_X4_countAbove_9 Q (w_X4_countAbove_9 Q n) _ _ _
        unfold wb_X4_countAbove_9
        refine z_ifn (nI_ge (a := a) (b := 10) (by omega) (by omega)) (s_has_n (rc_cnt hr) h10 (fun j hj q => ?_) (z_ifp rfl hq))
        rw [hf.2.2.2.2.2.1 hm] at q
        exact z_nI_none (by omega) q.symm
      · obtain ⟨n, rfl⟩ : ∃ k, n = k + 1 := ⟨n - 1, by omega⟩
        show wb_X6_above_4 Q (w_X6_above_4 Q n) _ _ _
        unfold wb_X6_above_4
        exact z_ifp (by decide) hq
    · obtain ⟨p, hp, ep⟩ := hf.2.2.2.2.2.2.1 m (by omega) hm
      obtain ⟨k, k1, k2⟩ := ih p hp (by omega)
      refine ⟨k + 1, fun a n σ Q hr ha hn hq => ?_, fun a n σ Q hr hn hq => ?_⟩
      · obtain ⟨n, rfl⟩ : ∃ k, n = k + 1 := ⟨n - 1, by omega⟩
        show wb_X4_countAbove_9 Q (w_X4_countAbove_9 Q n) _ _ _
        unfold wb_X4_countAbove_9
        rw [ep, z_tn (by omega)]
        refine z_ifn (nI_ge (a := a) (b := 10) (by omega) (by omega)) (s_has_y (rc_cnt hr) h10 (by omega) (z_ifn (by decide) ?_))
        rintro _ rfl
        refine ⟨z_vin (by omega) (by omega), ?_⟩
        rintro _ rfl
        rw [nI_1, rc_par hr (by omega)]
        exact k1 (a + 1) n σ Q hr (by omega) (by omega) (by rw [show a + 1 + k = a + (k + 1) by omega]; exact hq)
      · obtain ⟨n, rfl⟩ : ∃ k, n = k + 1 := ⟨n - 1, by omega⟩
        show wb_X6_above_4 Q (w_X6_above_4 Q n) _ _ _
        unfold wb_X6_above_4
        refine z_ifn (nI_ge (a := 0) (b := m) (by omega) (by omega)) (rm_of (k := 0) hr hm (by omega) ?_)
        rintro _ rfl
        rw [nI_1, show 4 + 18 * m + 0 = 4 + 18 * m by omega, ep]
        exact k2 (a + 1) n σ Q hr (by omega) (by rw [show a + 1 + k = a + (k + 1) by omega]; exact hq)
theorem op_meter {σ : z_S} {K : Int32 → Int32 → z_S → Prop} (a b : Int32) (h : z_Inv σ) (hK : ∀ r σ2, z_Inv σ2 → K r r σ2) : w_X5_meter a b σ (fun r σ1 => w_X6_meter a b σ1 (fun r2 σ2 => K r r2 σ2)) := by
  unfold w_X5_meter w_X6_meter
  refine op_gm (fun σ2 Q => if b = 0 then (vp_in a 10 ∧ Q (zg_i σ2 2 a.toNatClampNeg) σ2) else (if b = (1 : Int32) then (vp_in a 10 ∧ Q (zg_i σ2 3 a.toNatClampNeg) σ2) else (if b = (2 : Int32) then (vp_in a 10 ∧ Q (zg_i σ2 4 a.toNatClampNeg) σ2) else (if b = (3 : Int32) then (vp_in a 10 ∧ Q (zg_i σ2 5 a.toNatClampNeg) σ2) else (if b = (4 : Int32) then (vp_in a 10 ∧ Q (zg_i σ2 6 a.toNatClampNeg) σ2) else (if b = (5 : Int32) then (w_X4_countChildren a σ2 (fun r15 σ16 => Q r15 σ16)) else (if b = (6 : Int32) then (w_X4_countAbove a σ2 (fun r18 σ19 => Q r18 σ19)) else (Q (-2000000002 : Int32) σ2)))))))) (fun σ2 Q => w_X6_in b 0 (6 : Int32) σ2 (fun r4 σ5 => if r4 = 0 then (Q (-2000000002 : Int32) σ5) else (if (5 : Int32) ≤ b then (if b = (5 : Int32) then (w_X6_children a σ5 (fun r11 σ12 => Q r11 σ12)) else (w_X6_above a σ5 (fun r9 σ10 => Q r9 σ10))) else (w_X6_of a b σ5 (fun r13 σ14 => Q r13 σ14))))) h ?_ hK
  rintro f c m hm rfl hf
  have h10 := hf.1
  rcases z_cas b 5 with ⟨k, hk, rfl⟩ | hn
  · refine ⟨f (4 + 18 * m + k), fun σ Q hr hq => ?_, fun σ1 Q hr hq => s_in_y (lo := 0) (hi := 6) (by omega) (by omega) (by omega) (z_ifn (by decide) (z_ifn (nI_ge (a := k) (b := 5) (by omega) (by omega)) (rm_of hr hm (by omega) (hq σ1 (z_ms_rfl σ1)))))⟩
    have e := ic_col k hr.1 hk (m := m) (by omega)
    have hq := hq σ (z_cs_rfl σ)
    rw [← e] at hq
    show if nI k = 0 then _ else _
    rw [z_tn (by omega)]
    rcases (show k = 0 ∨ k = 1 ∨ k = 2 ∨ k = 3 ∨ k = 4 by omega) with rfl | rfl | rfl | rfl | rfl
    · exact z_ifp rfl ⟨z_vin (by omega) (by omega), hq⟩
    · exact z_ifn (by decide) (z_ifp rfl ⟨z_vin (by omega) (by omega), hq⟩)
    · exact z_ifn (by decide) (z_ifn (by decide) (z_ifp rfl ⟨z_vin (by omega) (by omega), hq⟩))
    · exact z_ifn (by decide) (z_ifn (by decide) (z_ifn (by decide) (z_ifp rfl ⟨z_vin (by omega) (by omega), hq⟩)))
    · exact z_ifn (by decide) (z_ifn (by decide) (z_ifn (by decide) (z_ifn (by decide) (z_ifp rfl ⟨z_vin (by omega) (by omega), hq⟩))))
  · have n0 := hn 0 (by omega)
    have n1 := hn 1 (by omega)
    have n2 := hn 2 (by omega)
    have n3 := hn 3 (by omega)
    have n4 := hn 4 (by omega)
    by_cases e5 : b = 5
    · subst e5
      exact ⟨nI (z_kids f c m).length, fun σ Q hr hq => z_ifn n0 (z_ifn n1 (z_ifn n2 (z_ifn n3 (z_ifn n4 (z_ifp rfl (rc_ch hr hm (hq σ (z_cs_rfl σ)))))))), fun σ1 Q hr hq => s_in_y (i := 5) (lo := 0) (hi := 6) (by omega) (by omega) (by omega) (z_ifn (by decide) (z_ifp (by decide) (z_ifp rfl (rm_ch hr hm (hq σ1 (z_ms_rfl σ1))))))⟩
    · by_cases e6 : b = 6
      · subst e6
        obtain ⟨k, k1, k2⟩ := z_above hf m hm
        refine ⟨nI (0 + k), fun σ Q hr hq => z_ifn n0 (z_ifn n1 (z_ifn n2 (z_ifn n3 (z_ifn n4 (z_ifn e5 (z_ifp rfl ?_)))))), fun σ1 Q hr hq => s_in_y (i := 6) (lo := 0) (hi := 6) (by omega) (by omega) (by omega) (z_ifn (by decide) (z_ifp (by decide) (z_ifn e5 (k2 0 400 σ1 _ hr (by omega) (hq σ1 (z_ms_rfl σ1))))))⟩
        unfold w_X4_countAbove
        refine ⟨z_vin (by omega) (by omega), ?_⟩
        rintro _ rfl
        rw [z_tn (by omega), rc_par hr (by omega)]
        exact k1 0 400 σ _ hr (by omega) (by omega) (hq σ (z_cs_rfl σ))
      · refine ⟨-2000000002, fun σ Q hr hq => z_ifn n0 (z_ifn n1 (z_ifn n2 (z_ifn n3 (z_ifn n4 (z_ifn e5 (z_ifn e6 (hq σ (z_cs_rfl σ)))))))), fun σ1 Q hr hq => s_in_n (lo := 0) (hi := 6) (by omega) (by omega) (fun i _ g q => ?_) (z_ifp rfl (hq σ1 (z_ms_rfl σ1)))⟩
        rcases (show i < 5 ∨ i = 5 ∨ i = 6 by omega) with g | rfl | rfl
        · exact hn i g q
        · exact e5 q
        · exact e6 q
