/-! losses, balances, suspicion -/
def z_lo (f : Nat → Int32) (i : Nat) : List Nat → Int32 → Int32
  | [], x => x
  | k :: l, x => z_lo f i l (x - z_en f k i)
def z_loss (f : Nat → Int32) (c m i : Nat) : Int32 := z_lo f i (z_kids f c m) (z_en f m i)
def z_bal (f : Nat → Int32) (c m i : Nat) : Int32 := if 0 ≤ z_loss f c m i then (if (lg_cmp ((1000 : Int64) * (z_loss f c m i).toInt64) ((z_en f m i).toInt64 * (f 2).toInt64)) ≤ 0 then 0 else 2) else 1
def z_sum (g : Nat → Int32) : Nat → Int32
  | 0 => 0
  | n + 1 => z_sum g n + g n
def z_fam (f : Nat → Int32) (c m : Nat) (τ : z_S) : Prop := ∀ k, (k = m ∨ k ∈ z_kids f c m) → ∀ j, j < 12 → zg_i τ (31 + k) j = z_en f k j
theorem l_fam {f : Nat → Int32} {c m : Nat} {σ : z_S} {Q : z_S → Prop} (h : z_rc f c σ) (hm : m < c) (hq : ∀ τ, z_cs σ τ → z_fam f c m τ → Q τ) : ∀ d i n, i + d = c → d < n → m < i → ∀ τ, z_cs σ τ → (∀ k, (k = m ∨ (m < k ∧ k < i ∧ f (4 + 18 * k) = nI m)) → ∀ j, j < 12 → zg_i τ (31 + k) j = z_en f k j) → w_X1_measureFamily_10 Q n (nI m) (nI i) τ := by
  have h10 := h.2.1
  intro d
  induction d with
  | zero =>
    intro i n hi hn hmi τ hτ hs
    obtain ⟨n, rfl⟩ : ∃ k, n = k + 1 := ⟨n - 1, by omega⟩
    obtain rfl : i = c := by omega
    show wb_X1_measureFamily_10 Q (w_X1_measureFamily_10 Q n) _ _ _
    unfold wb_X1_measureFamily_10
    rw [rc_cnt (z_rc_cs h hτ)]
    exact z_ifp (nI_le (Nat.le_refl i) (by omega)) (hq τ hτ (fun k hk => hs k (hk.elim Or.inl (fun q => Or.inr (z_kids_mem q)))))
  | succ d ih =>
    intro i n hi hn hmi τ hτ hs
    obtain ⟨n, rfl⟩ : ∃ k, n = k + 1 := ⟨n - 1, by omega⟩
    show wb_X1_measureFamily_10 Q (w_X1_measureFamily_10 Q n) _ _ _
    unfold wb_X1_measureFamily_10
    have hr := z_rc_cs h hτ
    rw [rc_cnt hr, z_tn (by omega), rc_par hr (by omega)]
    refine z_ifn (nI_ge (by omega) (by omega)) ⟨z_vin (by omega) (by omega), ?_⟩
    by_cases e : f (4 + 18 * i) = nI m
    · refine z_ifp e (rc_meas hr (by omega) (fun ρ hME hset => ?_))
      unfold w_X1_measureFamily_34
      rintro _ rfl
      rw [nI_1]
      refine ih (i + 1) n (by omega) (by omega) (by omega) ρ (z_cs_tr hτ (z_ME_cs (by omega) hME)) (fun k hk j hj => ?_)
      by_cases ek : k = i
      · subst ek
        exact (hset j hj).1
      · have hk9 : k < 10 := by omega
        rw [hME.1 (31 + k) (by omega) (by omega) (by omega)]
        exact hs k (hk.elim Or.inl (fun q => Or.inr ⟨q.1, by omega, q.2.2⟩)) j hj
    · refine z_ifn e ?_
      unfold w_X1_measureFamily_34
      rintro _ rfl
      rw [nI_1]
      refine ih (i + 1) n (by omega) (by omega) (by omega) τ hτ (fun k hk j hj => hs k ?_ j hj)
      rcases hk with hk | ⟨a, b, g⟩
      · exact Or.inl hk
      · refine Or.inr ⟨a, ?_, g⟩
        by_cases ek : k = i
        · subst ek
          exact absurd g e
        · omega
theorem rc_fam {f : Nat → Int32} {c m : Nat} {σ : z_S} {Q : z_S → Prop} (h : z_rc f c σ) (hm : m < c) (hq : ∀ τ, z_cs σ τ → z_fam f c m τ → Q τ) : w_X1_measureFamily (nI m) σ Q := by
  have h10 := h.2.1
  unfold w_X1_measureFamily
  refine rc_meas h hm (fun ρ hME hset => ?_)
  rintro _ rfl
  rw [nI_1]
  refine l_fam h hm hq (c - (m + 1)) (m + 1) 400 (by omega) (by omega) (by omega) ρ (z_ME_cs (by omega) hME) (fun k hk j hj => ?_)
  obtain rfl : k = m := by omega
  exact (hset j hj).1
theorem l_rc_loss {f : Nat → Int32} {c m j : Nat} {σ : z_S} {Q : Int32 → z_S → Prop} (h : z_rc f c σ) (hj : j < 12) : ∀ d i n, i + d = c → d < n → (∀ k, k ∈ z_kd f m d i → zg_i σ (31 + k) j = z_en f k j) → ∀ x, Q (z_lo f j (z_kd f m d i) x) σ → w_X1_lossIn_15 Q n (nI m) (nI j) x (nI i) σ := by
  have h10 := h.2.1
  intro d
  induction d with
  | zero =>
    intro i n hi hn hs x hq
    obtain ⟨n, rfl⟩ : ∃ k, n = k + 1 := ⟨n - 1, by omega⟩
    obtain rfl : i = c := by omega
    show wb_X1_lossIn_15 Q (w_X1_lossIn_15 Q n) _ _ _ _ _
    unfold wb_X1_lossIn_15
    rw [rc_cnt h]
    exact z_ifp (nI_le (Nat.le_refl i) (by omega)) hq
  | succ d ih =>
    intro i n hi hn hs x hq
    obtain ⟨n, rfl⟩ : ∃ k, n = k + 1 := ⟨n - 1, by omega⟩
    show wb_X1_lossIn_15 Q (w_X1_lossIn_15 Q n) _ _ _ _ _
    unfold wb_X1_lossIn_15
    rw [rc_cnt h, z_tn (by omega), z_tn (by omega), rc_par h (by omega)]
    refine z_ifn (nI_ge (by omega) (by omega)) ⟨z_vin (by omega) (by omega), ?_⟩
    unfold z_kd at hq hs
    by_cases e : f (4 + 18 * i) = nI m
    · rw [if_pos e] at hq hs
      refine z_ifp e ⟨z_vin (by omega) (by omega), z_vin (by omega) (by omega), ?_⟩
      rw [hs i List.mem_cons_self]
      rintro _ rfl
      unfold w_X1_lossIn_49
      rintro _ rfl
      rw [nI_1]
      exact ih (i + 1) n (by omega) (by omega) (fun k hk => hs k (List.mem_cons_of_mem _ hk)) _ hq
    · rw [if_neg e] at hq hs
      refine z_ifn e ?_
      unfold w_X1_lossIn_49
      rintro _ rfl
      rw [nI_1]
      exact ih (i + 1) n (by omega) (by omega) hs x hq
theorem rc_loss {f : Nat → Int32} {c m j : Nat} {σ : z_S} {Q : Int32 → z_S → Prop} (h : z_rc f c σ) (hm : m < c) (hj : j < 12) (hs : z_fam f c m σ) (hq : Q (z_loss f c m j) σ) : w_X1_lossIn (nI m) (nI j) σ Q := by
  have h10 := h.2.1
  unfold w_X1_lossIn
  rw [z_tn (by omega), z_tn (by omega), hs m (Or.inl rfl) j hj]
  refine ⟨z_vin (by omega) (by omega), z_vin (by omega) (by omega), ?_⟩
  rintro _ rfl _ rfl
  rw [nI_1]
  exact l_rc_loss h hj (c - (m + 1)) (m + 1) 400 (by omega) (by omega) (fun k hk => hs k (Or.inr hk) j hj) _ hq
theorem l_rm_loss {f : Nat → Int32} {c m j : Nat} {σ : z_S} {Q : Int32 → z_S → Prop} (h : z_rm f c σ) (hj : j < 12) : ∀ d i n, i + d = c → d < n → ∀ x, Q (z_lo f j (z_kd f m d i) x) σ → w_X6_lossOf_10 Q n (nI m) (nI j) x (nI i) σ := by
  have h10 := h.2.1
  intro d
  induction d with
  | zero =>
    intro i n hi hn x hq
    obtain ⟨n, rfl⟩ : ∃ k, n = k + 1 := ⟨n - 1, by omega⟩
    obtain rfl : i = c := by omega
    show wb_X6_lossOf_10 Q (w_X6_lossOf_10 Q n) _ _ _ _ _
    unfold wb_X6_lossOf_10
    rw [show (0 : Int32).toNatClampNeg = 0 from rfl, rm_cnt h]
    exact ⟨z_vin (i := 0) (by omega) (by omega), z_ifp (nI_le (Nat.le_refl i) (by omega)) hq⟩
  | succ d ih =>
    intro i n hi hn x hq
    obtain ⟨n, rfl⟩ : ∃ k, n = k + 1 := ⟨n - 1, by omega⟩
    show wb_X6_lossOf_10 Q (w_X6_lossOf_10 Q n) _ _ _ _ _
    unfold wb_X6_lossOf_10
    rw [show (0 : Int32).toNatClampNeg = 0 from rfl, rm_cnt h]
    refine ⟨z_vin (i := 0) (by omega) (by omega), z_ifn (nI_ge (by omega) (by omega)) (rm_of (k := 0) h (by omega) (by omega) ?_)⟩
    unfold z_kd at hq
    by_cases e : f (4 + 18 * i) = nI m
    · rw [if_pos e] at hq
      refine z_ifp e (rm_energy h (by omega) hj ?_)
      unfold w_X6_lossOf_44
      rintro _ rfl _ rfl
      rw [nI_1]
      exact ih (i + 1) n (by omega) (by omega) _ hq
    · rw [if_neg e] at hq
      refine z_ifn e ?_
      unfold w_X6_lossOf_44
      rintro _ rfl _ rfl
      rw [nI_1, Int32.sub_zero]
      exact ih (i + 1) n (by omega) (by omega) x hq
theorem rm_loss {f : Nat → Int32} {c m j : Nat} {σ : z_S} {Q : Int32 → z_S → Prop} (h : z_rm f c σ) (hm : m < c) (hj : j < 12) (hq : Q (z_loss f c m j) σ) : w_X6_lossOf (nI m) (nI j) σ Q := by
  have h10 := h.2.1
  unfold w_X6_lossOf
  exact rm_energy h hm hj (l_rm_loss h hj (c - 1) 1 400 (by omega) (by omega) _ (by rw [z_kd_skip h.2 hm m 1 (by omega)]; exact hq))
theorem rc_bal {f : Nat → Int32} {c m j : Nat} {σ : z_S} {Q : Int32 → z_S → Prop} (h : z_rc f c σ) (hm : m < c) (hj : j < 12) (hs : z_fam f c m σ) (hq : Q (z_bal f c m j) σ) : w_X1_balanceIn (nI m) (nI j) σ Q := by
  have h10 := h.2.1
  unfold w_X1_balanceIn
  unfold z_bal at hq
  refine rc_loss h hm hj hs (z_iteQ hq (fun _ hq => ⟨z_vin (by omega) (by omega), z_vin (by omega) (by omega), ?_⟩) (fun _ hq => hq))
  rw [z_tn (by omega), z_tn (by omega), hs m (Or.inl rfl) j hj, ic_0 h.1 (by omega), Int64.mul_comm _ (1000 : Int64)]
  exact z_iteQ hq (fun _ q => q) (fun _ q => q)
theorem rm_bal {f : Nat → Int32} {c m j : Nat} {σ : z_S} {Q : Int32 → z_S → Prop} (h : z_rm f c σ) (hm : m < c) (hj : j < 12) (hq : Q (z_bal f c m j) σ) : w_X6_balanceOf (nI m) (nI j) σ Q := by
  have h10 := h.2.1
  unfold w_X6_balanceOf
  unfold z_bal at hq
  refine rm_loss h hm hj (z_iteQ hq (fun _ hq => rm_energy h hm hj ⟨z_vin (i := 2) (by omega) (by omega), ?_⟩) (fun _ hq => hq))
  rw [show (2 : Int32).toNatClampNeg = 2 from rfl, im_at h.1 (by omega)]
  exact z_iteQ hq (fun _ q => q) (fun _ q => q)
/-- no children: NONE -/
theorem z_k0 {f : Nat → Int32} {c m : Nat} (h : c ≤ 10) : nI (z_kids f c m).length = 0 ↔ (z_kids f c m).length = 0 := nI_eq (b := 0) (by have := z_kids_len f c m; omega) (by omega)
theorem op_loss {σ : z_S} {K : Int32 → Int32 → z_S → Prop} (a b : Int32) (h : z_Inv σ) (hK : ∀ r σ2, z_Inv σ2 → K r r σ2) : w_X5_loss a b σ (fun r σ1 => w_X6_loss a b σ1 (fun r2 σ2 => K r r2 σ2)) := by
  unfold w_X5_loss w_X6_loss
  refine op_gi (fun σ5 Q => w_X4_countChildren a σ5 (fun r7 σ8 => if r7 = 0 then (Q (-2000000000 : Int32) σ8) else (w_X1_measureFamily a σ8 (fun σ11 => w_X1_lossIn a b σ11 (fun r12 σ13 => Q r12 σ13))))) (fun σ2 Q => w_X6_children a σ2 (fun r4 σ5 => if r4 = 0 then (Q (-2000000000 : Int32) σ5) else (w_X6_lossOf a b σ5 (fun r7 σ8 => Q r7 σ8)))) h ?_ hK
  rintro f c m i hm hi rfl rfl hf
  by_cases e : nI (z_kids f c m).length = 0
  · exact ⟨-2000000000, fun σ Q hr hq => rc_ch hr hm (z_ifp e (hq σ (z_cs_rfl σ))), fun σ1 Q hr hq => rm_ch hr hm (z_ifp e (hq σ1 (z_ms_rfl σ1)))⟩
  · exact ⟨z_loss f c m i, fun σ Q hr hq => rc_ch hr hm (z_ifn e (rc_fam hr hm (fun τ hτ hs => rc_loss (z_rc_cs hr hτ) hm hi hs (hq τ hτ)))), fun σ1 Q hr hq => rm_ch hr hm (z_ifn e (rm_loss hr hm hi (hq σ1 (z_ms_rfl σ1))))⟩
theorem op_balance {σ : z_S} {K : Int32 → Int32 → z_S → Prop} (a b : Int32) (h : z_Inv σ) (hK : ∀ r σ2, z_Inv σ2 → K r r σ2) : w_X5_balance a b σ (fun r σ1 => w_X6_balance a b σ1 (fun r2 σ2 => K r r2 σ2)) := by
  unfold w_X5_balance w_X6_balance
  refine op_gi (fun σ5 Q => w_X4_countChildren a σ5 (fun r7 σ8 => if r7 = 0 then (Q (-2000000000 : Int32) σ8) else (w_X1_measureFamily a σ8 (fun σ11 => w_X1_balanceIn a b σ11 (fun r12 σ13 => Q r12 σ13))))) (fun σ2 Q => w_X6_children a σ2 (fun r4 σ5 => if r4 = 0 then (Q (-2000000000 : Int32) σ5) else (w_X6_balanceOf a b σ5 (fun r7 σ8 => Q r7 σ8)))) h ?_ hK
  rintro f c m i hm hi rfl rfl hf
  by_cases e : nI (z_kids f c m).length = 0
  · exact ⟨-2000000000, fun σ Q hr hq => rc_ch hr hm (z_ifp e (hq σ (z_cs_rfl σ))), fun σ1 Q hr hq => rm_ch hr hm (z_ifp e (hq σ1 (z_ms_rfl σ1)))⟩
  · exact ⟨z_bal f c m i, fun σ Q hr hq => rc_ch hr hm (z_ifn e (rc_fam hr hm (fun τ hτ hs => rc_bal (z_rc_cs hr hτ) hm hi hs (hq τ hτ)))), fun σ1 Q hr hq => rm_ch hr hm (z_ifn e (rm_bal hr hm hi (hq σ1 (z_ms_rfl σ1))))⟩
/-! the next fault -/
def z_nf (f : Nat → Int32) (c m : Nat) : Nat → Nat → Int32
  | 0, _ => zNONE
  | d + 1, i => if z_bal f c m i = 0 then z_nf f c m d (i + 1) else nI i
theorem l_rc_nf {f : Nat → Int32} {c m : Nat} {σ : z_S} {Q : Int32 → z_S → Prop} (h : z_rc f c σ) (hm : m < c) (hs : z_fam f c m σ) : ∀ d i n, i + d = 12 → d < n → Q (z_nf f c m d i) σ → w_X5_nextFault_57 Q n (nI m) (nI i) σ := by
  intro d
  induction d with
  | zero =>
    intro i n hi hn hq
    obtain ⟨n, rfl⟩ : ∃ k, n = k + 1 := ⟨n - 1, by omega⟩
    obtain rfl : i = 12 := by omega
    show wb_X5_nextFault_57 Q (w_X5_nextFault_57 Q n) _ _ _
    unfold wb_X5_nextFault_57
    exact z_ifp (by decide) hq
  | succ d ih =>
    intro i n hi hn hq
    obtain ⟨n, rfl⟩ : ∃ k, n = k + 1 := ⟨n - 1, by omega⟩
    show wb_X5_nextFault_57 Q (w_X5_nextFault_57 Q n) _ _ _
    unfold wb_X5_nextFault_57
    unfold z_nf at hq
    refine z_ifn (nI_ge (a := i) (b := 12) (by omega) (by omega)) (rc_bal h hm (by omega) hs (z_iteQ hq (fun _ hq => ?_) (fun _ hq => hq)))
    rintro _ rfl
    rw [nI_1]
    exact ih (i + 1) n (by omega) (by omega) hq
theorem l_rm_nf {f : Nat → Int32} {c m : Nat} {σ : z_S} {Q : Int32 → z_S → Prop} (h : z_rm f c σ) (hm : m < c) (e : ¬ (z_kids f c m).length = 0) : ∀ d i n, i + d = 12 → d < n → Q (z_nf f c m d i) σ → w_X6_nextFault_28 Q n (nI m) (nI i) σ := by
  have h10 := h.2.1
  intro d
  induction d with
  | zero =>
    intro i n hi hn hq
    obtain ⟨n, rfl⟩ : ∃ k, n = k + 1 := ⟨n - 1, by omega⟩
    obtain rfl : i = 12 := by omega
    show wb_X6_nextFault_28 Q (w_X6_nextFault_28 Q n) _ _ _
    unfold wb_X6_nextFault_28
    exact z_ifp (by decide) hq
  | succ d ih =>
    intro i n hi hn hq
    obtain ⟨n, rfl⟩ : ∃ k, n = k + 1 := ⟨n - 1, by omega⟩
    show wb_X6_nextFault_28 Q (w_X6_nextFault_28 Q n) _ _ _
    unfold wb_X6_nextFault_28
    unfold z_nf at hq
    have hl := z_kids_len f c m
    refine z_ifn (nI_ge (a := i) (b := 12) (by omega) (by omega)) (rm_ch h hm (z_ifn (nI_ge (a := 0) (by omega) (by omega)) (rm_bal h hm (by omega) (z_iteQ hq (fun _ hq => ?_) (fun _ hq => hq)))))
    rintro _ rfl
    rw [nI_1]
    exact ih (i + 1) n (by omega) (by omega) hq
theorem l_rm_nf0 {f : Nat → Int32} {c m : Nat} {σ : z_S} {Q : Int32 → z_S → Prop} (h : z_rm f c σ) (hm : m < c) (e : (z_kids f c m).length = 0) {i : Nat} (hi : i ≤ 12) (hq : Q zNONE σ) (n : Nat) : w_X6_nextFault_28 Q (n + 1) (nI m) (nI i) σ := by
  show wb_X6_nextFault_28 Q (w_X6_nextFault_28 Q n) _ _ _
  unfold wb_X6_nextFault_28
  refine z_ite (fun _ => hq) (fun _ => rm_ch h hm ?_)
  rw [e]
  exact z_ifp (by decide) hq
theorem z_m1r {x : Int32} (h1 : ¬ x < -1) (h2 : ¬ 11 < x) : ∃ j, j ≤ 12 ∧ x + 1 = nI j := by
  rw [Int32.lt_iff_toInt_lt] at h1 h2
  rw [show (-1 : Int32).toInt = -1 by decide] at h1
  rw [show (11 : Int32).toInt = 11 by decide] at h2
  refine ⟨(x.toInt + 1).toNat, by omega, Int32.toInt_inj.mp ?_⟩
  rw [nI_toInt (by omega), Int32.toInt_add, show (1 : Int32).toInt = 1 by decide]
  have := Int.emod_emod_of_dvd
  rw [Int.bmod_eq_of_le (by omega) (by omega)]
  omega
theorem op_nextFault {σ : z_S} {K : Int32 → Int32 → z_S → Prop} (a b : Int32) (h : z_Inv σ) (hK : ∀ r σ2, z_Inv σ2 → K r r σ2) : w_X5_nextFault a b σ (fun r σ1 => w_X6_nextFault a b σ1 (fun r2 σ2 => K r r2 σ2)) := by
  unfold w_X5_nextFault w_X6_nextFault
  refine op_gm (fun σ2 Q => w_X5_within b (-1 : Int32) (11 : Int32) σ2 (fun r4 σ5 => if r4 = 0 then (Q (-2000000002 : Int32) σ5) else (w_X4_countChildren a σ5 (fun r7 σ8 => if r7 = 0 then (Q (-2000000000 : Int32) σ8) else (w_X1_measureFamily a σ8 (fun σ11 => ∀ y12 : Int32, y12 = (b + (1 : Int32)) → w_X5_nextFault_57 Q 400 a y12 σ11)))))) (fun σ2 Q => w_X6_in b (-1 : Int32) (11 : Int32) σ2 (fun r4 σ5 => if r4 = 0 then (Q (-2000000002 : Int32) σ5) else (∀ y7 : Int32, y7 = (b + (1 : Int32)) → w_X6_nextFault_28 Q 400 a y7 σ5))) h ?_ hK
  rintro f c m hm rfl hf
  have h10 := hf.1
  unfold w_X5_within w_X6_in
  by_cases g1 : b < -1
  · exact ⟨-2000000002, fun σ Q hr hq => z_ifp g1 ⟨Or.inl rfl, z_ifp rfl (hq σ (z_cs_rfl σ))⟩, fun σ1 Q hr hq => z_ifp g1 ⟨Or.inl rfl, z_ifp rfl (hq σ1 (z_ms_rfl σ1))⟩⟩
  · by_cases g2 : 11 < b
    · exact ⟨-2000000002, fun σ Q hr hq => z_ifn g1 (z_ifp g2 ⟨Or.inl rfl, z_ifp rfl (hq σ (z_cs_rfl σ))⟩), fun σ1 Q hr hq => z_ifn g1 (z_ifp g2 ⟨Or.inl rfl, z_ifp rfl (hq σ1 (z_ms_rfl σ1))⟩)⟩
    · obtain ⟨j, hj, ej⟩ := z_m1r g1 g2
      by_cases e : (z_kids f c m).length = 0
      · refine ⟨-2000000000, fun σ Q hr hq => z_ifn g1 (z_ifn g2 ⟨Or.inr rfl, z_ifn (by decide) (rc_ch hr hm (z_ifp ((z_k0 h10).mpr e) (hq σ (z_cs_rfl σ))))⟩), fun σ1 Q hr hq => z_ifn g1 (z_ifn g2 ⟨Or.inr rfl, z_ifn (by decide) ?_⟩)⟩
        rintro _ rfl
        rw [ej]
        exact l_rm_nf0 hr hm e hj (hq σ1 (z_ms_rfl σ1)) 399
      · refine ⟨z_nf f c m (12 - j) j, fun σ Q hr hq => z_ifn g1 (z_ifn g2 ⟨Or.inr rfl, z_ifn (by decide) (rc_ch hr hm (z_ifn (fun q => e ((z_k0 h10).mp q)) (rc_fam hr hm (fun τ hτ hs => ?_))))⟩), fun σ1 Q hr hq => z_ifn g1 (z_ifn g2 ⟨Or.inr rfl, z_ifn (by decide) ?_⟩)⟩
        · rintro _ rfl
          rw [ej]
          exact l_rc_nf (z_rc_cs hr hτ) hm hs (12 - j) j 400 (by omega) (by omega) (hq τ hτ)
        · rintro _ rfl
          rw [ej]
          exact l_rm_nf hr hm e (12 - j) j 400 (by omega) (by omega) (hq σ1 (z_ms_rfl σ1))
