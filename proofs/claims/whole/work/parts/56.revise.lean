/-! revise -/
def z_frv (f : Nat → Int32) (r : Nat) (g : Nat → Int32) (n : Nat) : Nat → Int32 := fun x => if 184 + 10 * r ≤ x ∧ x < 184 + 10 * r + n then g (x - (184 + 10 * r)) else f x
theorem z_frv_0 (f : Nat → Int32) (r : Nat) (g : Nat → Int32) (x : Nat) : f x = z_frv f r g 0 x := by
  unfold z_frv
  rw [if_neg (by omega)]
theorem z_frv_s (f : Nat → Int32) (r : Nat) (g : Nat → Int32) (i : Nat) : z_fup (z_frv f r g i) (184 + 10 * r + i) (g i) = z_frv f r g (i + 1) := by
  funext x
  unfold z_fup z_frv
  by_cases h1 : x = 184 + 10 * r + i
  · rw [if_pos h1, if_pos (by omega), h1, Nat.add_sub_cancel_left]
  · rw [if_neg h1]
    by_cases h2 : 184 + 10 * r ≤ x ∧ x < 184 + 10 * r + i
    · rw [if_pos h2, if_pos (by omega)]
    · rw [if_neg h2, if_neg (by omega)]
theorem z_frv_ne (f : Nat → Int32) {r n x : Nat} (g : Nat → Int32) (hx : x < 184) : z_frv f r g n x = f x := if_neg (by omega)
theorem fine_frv {f : Nat → Int32} {c r n : Nat} {g : Nat → Int32} (h : z_fine f c) (hr : r < 8) : z_fine (z_fup (z_frv f r g n) 3 (nI (r + 1))) c := by
  obtain ⟨h1, h2, h3, h4, h5, h6, h7, h8⟩ := h
  have ne : ∀ y, y ≠ 3 → y < 184 → z_fup (z_frv f r g n) 3 (nI (r + 1)) y = f y := fun y hy hy2 => by rw [z_fup_ne _ _ hy, z_frv_ne _ _ hy2]
  refine ⟨h1, by rw [ne _ (by omega) (by omega)]; exact h2, by rw [ne _ (by omega) (by omega)]; exact h3, by rw [ne _ (by omega) (by omega)]; exact h4, ⟨r + 1, by omega, z_fup_at _ _ _⟩, by rw [ne _ (by omega) (by omega)]; exact h6, fun q g1 g2 => by rw [ne _ (by omega) (by omega)]; exact h7 q g1 g2, fun q hq => ?_⟩
  obtain ⟨a1, a3, a4, d, d1, d2, d3, d4⟩ := h8 q hq
  exact ⟨by rw [ne _ (by omega) (by omega)]; exact a1, by rw [ne _ (by omega) (by omega)]; exact a3, by rw [ne _ (by omega) (by omega)]; exact a4, d, d1, d2, by rw [ne _ (by omega) (by omega)]; exact d3, fun b hb => by rw [ne _ (by omega) (by omega)]; exact d4 b hb⟩
def z_rg (f : Nat → Int32) (c k : Nat) : Int32 := if k < c then z_tot f c k else zNONE
theorem l_rvC {f : Nat → Int32} {c r sv : Nat} {F : Nat → Nat → Int32} {len : Nat} {tx : Nat → Int32} {σ : z_S} {Q : Int32 → z_S → Prop} (hf : z_fine f c) (hr : r < 8) (hq : ∀ τ, z_IC (z_fup (z_frv f r (z_rg f c) 10) 3 (nI (r + 1))) sv F len tx τ → z_mf σ τ → Q (nI r) τ) : ∀ d i n, i + d = 10 → d < n → ∀ τ, z_IC (z_frv f r (z_rg f c) i) sv F len tx τ → z_mf σ τ → (∀ j, j < 12 → ∀ k, k < c → zg_i τ (55 + k) j = z_bi f c k j) → w_X5_revise_64 Q n (nI r) (nI i) τ := by
  have h10 := hf.1
  intro d
  induction d with
  | zero =>
    intro i n hi hn τ hτ hmf hB
    obtain ⟨n, rfl⟩ : ∃ k, n = k + 1 := ⟨n - 1, by omega⟩
    obtain rfl : i = 10 := by omega
    show wb_X5_revise_64 Q (w_X5_revise_64 Q n) _ _ _
    unfold wb_X5_revise_64
    refine z_ifp (by decide) ?_
    rintro _ rfl
    rw [nI_1]
    exact hq _ (ic_set0 hτ (by omega)) (z_mf_tr hmf (z_mf_i (by omega)))
  | succ d ih =>
    intro i n hi hn τ hτ hmf hB
    obtain ⟨n, rfl⟩ : ∃ k, n = k + 1 := ⟨n - 1, by omega⟩
    show wb_X5_revise_64 Q (w_X5_revise_64 Q n) _ _ _
    unfold wb_X5_revise_64
    have hcc : zg_i τ 1 0 = nI c := by rw [ic_0 hτ.2.1 (by omega), z_frv_ne _ _ (by omega)]; exact hf.2.1
    have fin : ∀ v, v = z_rg f c i → w_X5_revise_108 (w_X5_revise_64 Q n) Q (nI r) (nI i) v (nI i) (19 + r) τ := by
      rintro _ rfl
      unfold w_X5_revise_108
      rw [z_tn (by omega)]
      refine ⟨⟨by omega, z_sh19 hr⟩, z_vin (by omega) (by omega), ?_⟩
      rintro _ rfl _ rfl
      rw [nI_1]
      refine ih (i + 1) n (by omega) (by omega) _ ?_ (z_mf_tr hmf (z_mf_i (by omega))) (fun j hj k hk => by rw [zs_i_ne (by omega)]; exact hB j hj k hk)
      rw [← z_frv_s]
      exact ic_setk hτ hr (by omega)
    rw [z_tn (show r < 2 ^ 31 by omega), z_tn (show i < 2 ^ 31 by omega)]
    refine z_ifn (nI_ge (a := i) (b := 10) (by omega) (by omega)) ⟨z_vin hr (by omega), ?_⟩
    by_cases e : i < c
    · refine s_has_y hcc h10 e (z_ifn (by decide) ⟨z_vin (by omega) (by omega), rc_sum (g := z_bi f c i) ⟨by omega, z_sh55 (by omega)⟩ (fun j hj => hB j hj i e) (fin _ ?_)⟩)
      exact (if_pos e).symm
    · refine s_has_n hcc h10 (fun m hm q => e (by rw [(nI_eq (by omega) (by omega)).mp q]; exact hm)) (z_ifp rfl (fin _ ?_))
      exact (if_neg e).symm
theorem l_rvM {f : Nat → Int32} {c r sv : Nat} {F : Nat → Nat → Int32} {len : Nat} {tx : Nat → Int32} {σ : z_S} {Q : Int32 → z_S → Prop} (hf : z_fine f c) (hr : r < 8) (hr3 : f 3 = nI r) (hq : ∀ τ, z_IM (z_fup (z_frv f r (z_rg f c) 10) 3 (nI (r + 1))) sv F len tx τ → z_cf9 σ τ → Q (nI r) τ) : ∀ d i n, i + d = 10 → d < n → ∀ τ, z_IM (z_frv f r (z_rg f c) i) sv F len tx τ → z_cf9 σ τ → (∀ k, k < c → zg_i τ 79 k = z_tot f c k) → w_X6_revise_43 Q n (nI r) (nI i) τ := by
  have h10 := hf.1
  have cfi : ∀ (τ : z_S) (x : Nat) (v : Int32), z_cf9 τ (zs_i τ 74 x v) := fun τ x v => ⟨fun p hp => zs_i_ne (by omega), rfl, rfl⟩
  intro d
  induction d with
  | zero =>
    intro i n hi hn τ hτ hcf hB
    obtain ⟨n, rfl⟩ : ∃ k, n = k + 1 := ⟨n - 1, by omega⟩
    obtain rfl : i = 10 := by omega
    show wb_X6_revise_43 Q (w_X6_revise_43 Q n) _ _ _
    unfold wb_X6_revise_43
    rw [show (3 : Int32).toNatClampNeg = 3 from rfl, im_at hτ.2.1 (by omega), z_frv_ne _ _ (by omega), hr3, nI_1]
    refine z_ifp (by decide) ⟨z_vin (i := 3) (by omega) (by omega), z_vin (i := 3) (by omega) (by omega), ?_⟩
    rintro _ rfl
    exact hq _ (im_set hτ (by omega)) (z_cf_tr hcf (cfi _ _ _))
  | succ d ih =>
    intro i n hi hn τ hτ hcf hB
    obtain ⟨n, rfl⟩ : ∃ k, n = k + 1 := ⟨n - 1, by omega⟩
    show wb_X6_revise_43 Q (w_X6_revise_43 Q n) _ _ _
    unfold wb_X6_revise_43
    have hcc : z_frv f r (z_rg f c) i 0 = nI c := by rw [z_frv_ne _ _ (by omega)]; exact hf.2.1
    have fin : ∀ v, v = z_rg f c i → w_X6_revise_82 (w_X6_revise_43 Q n) Q (nI r) (nI i) v (((184 : Int32) + ((10 : Int32) * nI r)) + nI i) τ := by
      rintro _ rfl
      unfold w_X6_revise_82
      rw [show (184 : Int32) + ((10 : Int32) * nI r) + nI i = nI (184 + 10 * r + i) by rw [show (184 : Int32) = nI 184 from rfl, show (10 : Int32) = nI 10 from rfl, nI_mul, nI_add, nI_add], z_tn (by omega)]
      refine ⟨z_vin (by omega) (by omega), ?_⟩
      rintro _ rfl _ rfl
      rw [nI_1]
      refine ih (i + 1) n (by omega) (by omega) _ ?_ (z_cf_tr hcf (cfi _ _ _)) (fun k hk => by rw [zs_i_ne (by omega)]; exact hB k hk)
      rw [← z_frv_s]
      exact im_set hτ (by omega)
    refine z_ifn (nI_ge (a := i) (b := 10) (by omega) (by omega)) ?_
    by_cases e : i < c
    · refine s_isMeter_y hτ.2.1 hcc h10 e (z_ifn (by decide) ⟨z_vin (by omega) (by omega), ?_⟩)
      rw [z_tn (by omega), hB i e]
      exact fin _ (if_pos e).symm
    · refine s_isMeter_n hτ.2.1 hcc h10 (fun m hm q => e (by rw [(nI_eq (by omega) (by omega)).mp q]; exact hm)) (z_ifp rfl (fin _ ?_))
      exact (if_neg e).symm
theorem op_revise {σ : z_S} {K : Int32 → Int32 → z_S → Prop} (h : z_Inv σ) (hK : ∀ r σ2, z_Inv σ2 → K r r σ2) : w_X5_revise σ (fun r σ1 => w_X6_revise σ1 (fun r2 σ2 => K r r2 σ2)) := by
  obtain ⟨f, c, sv, F, len, tx, hC, hM, hG⟩ := h
  have h10 := hG.1.1
  have hc := hG.1.2.1
  obtain ⟨rv, hrv8, hrv⟩ := hG.1.2.2.2.2.1
  have c0 : zg_i σ 1 0 = nI c := by rw [ic_0 hC.2.1 (by omega)]; exact hc
  have c3 : zg_i σ 1 3 = nI rv := by rw [ic_0 hC.2.1 (by omega)]; exact hrv
  by_cases e0 : c = 0
  · subst e0
    refine z_comb (wC := fun Q => w_X5_revise σ Q) (wM := fun σ1 Q => w_X6_revise σ1 Q) (r := -2000000003) hM hG (fun Q hq => ?_) (fun σ1 h1 Q hq => ?_) hK
    · unfold w_X5_revise
      exact z_ifp c0 (hq σ hC (z_mf_rfl σ))
    · unfold w_X6_revise
      refine ⟨z_vin (i := 0) (by omega) (by omega), ?_⟩
      rw [show (0 : Int32).toNatClampNeg = 0 from rfl, im_at h1.2.1 (by omega)]
      exact z_ifp hc (hq σ1 h1 (z_cf_rfl σ1))
  · have n0 : ¬ nI c = 0 := fun q => e0 ((nI_eq (b := 0) (by omega) (by omega)).mp q)
    by_cases e8 : rv = 8
    · refine z_comb (wC := fun Q => w_X5_revise σ Q) (wM := fun σ1 Q => w_X6_revise σ1 Q) (r := -2000000004) hM hG (fun Q hq => ?_) (fun σ1 h1 Q hq => ?_) hK
      · unfold w_X5_revise
        rw [c0, c3, e8]
        exact z_ifn n0 (z_ifn (by decide) (hq σ hC (z_mf_rfl σ)))
      · unfold w_X6_revise
        refine ⟨z_vin (i := 0) (by omega) (by omega), ?_⟩
        rw [show (0 : Int32).toNatClampNeg = 0 from rfl, im_at h1.2.1 (by omega), show (3 : Int32).toNatClampNeg = 3 from rfl, im_at h1.2.1 (by omega), hc, hrv, e8]
        exact z_ifn n0 ⟨z_vin (i := 3) (by omega) (by omega), z_ifp rfl (hq σ1 h1 (z_cf_rfl σ1))⟩
    · refine z_comb (wC := fun Q => w_X5_revise σ Q) (wM := fun σ1 Q => w_X6_revise σ1 Q) (r := nI rv) hM (z_GD_rec hG (fine_frv (n := 10) (g := z_rg f c) hG.1 (show rv < 8 by omega))) (fun Q hq => ?_) (fun σ1 h1 Q hq => ?_) hK
      · unfold w_X5_revise
        rw [c0, c3]
        refine z_ifn n0 (z_ifp ((nI_ltI (b := 8) (by omega) (by omega)).mpr (by omega)) (push_IC hC (fun τ ht hmf => rc_fill ⟨ht.2.1, hG.1⟩ (by omega) (fun ρ hρ hE hB => ?_))))
        have hIC := z_IC_cs ht hρ
        rw [ic_0 hIC.2.1 (show 3 < 4 by omega), hrv]
        rintro _ rfl
        exact l_rvC hG.1 (by omega) (fun κ hκ hm => hq κ hκ (z_mf_tr hmf (z_mf_tr (z_cs_mf hρ) hm))) 10 0 400 (by omega) (by omega) ρ (z_IC_ext hIC (fun x _ => z_frv_0 f rv _ x)) (z_mf_rfl ρ) hB
      · unfold w_X6_revise
        refine ⟨z_vin (i := 0) (by omega) (by omega), ?_⟩
        rw [show (0 : Int32).toNatClampNeg = 0 from rfl, im_at h1.2.1 (by omega), show (3 : Int32).toNatClampNeg = 3 from rfl, im_at h1.2.1 (by omega), hc, hrv]
        refine z_ifn n0 ⟨z_vin (i := 3) (by omega) (by omega), z_ifn (fun q => e8 ((nI_eq (b := 8) (by omega) (by omega)).mp q)) (saves_IM hG.2.1 h1 (fun τ ht hcf => rm_all ⟨ht.2.1, hG.1⟩ (by omega) (fun ρ hρ h9 => ⟨z_vin (i := 3) (by omega) (by omega), ?_⟩)))⟩
        have hIM := z_IM_ms ht hρ
        rw [im_at hIM.2.1 (show 3 < 264 by omega), hrv]
        rintro _ rfl
        exact l_rvM hG.1 (by omega) hrv (fun κ hκ hm => hq κ hκ (z_cf_tr hcf (z_cf_tr (z_ms_cf hρ) hm))) 10 0 400 (by omega) (by omega) ρ (z_IM_ext hIM (fun x _ => z_frv_0 f rv _ x)) (z_cf_rfl ρ) h9
/-! digest -/
def z_hr (f : Nat → Int32) (a : Nat) (h : Int64) : Nat → Int64
  | 0 => h
  | n + 1 => (31 : Int64) * z_hr f a h n + (f (a + n)).toInt64
def z_hk (f : Nat → Int32) (c : Nat) (h : Int64) : Nat → Int64
  | 0 => h
  | n + 1 => if n % 10 < c then (31 : Int64) * z_hk f c h n + (f (184 + n)).toInt64 else z_hk f c h n
theorem z_hk_skip (f : Nat → Int32) (c r : Nat) (h : Int64) : ∀ j, c + j ≤ 10 → z_hk f c h (10 * r + c + j) = z_hk f c h (10 * r + c) := by
  intro j
  induction j with
  | zero => intro _; rfl
  | succ j ih =>
    intro hj
    show (if (10 * r + c + j) % 10 < c then _ else z_hk f c h (10 * r + c + j)) = _
    rw [if_neg (by omega), ih (by omega)]
theorem l_dg100 {f : Nat → Int32} {c m : Nat} {h0 : Int64} {σ : z_S} {Q : Int64 → z_S → Prop} {K : Int64 → Int32 → z_S → Prop} (h : z_rc f c σ) (hm : m < c) (hK : K (z_hr f 4 h0 (18 * (m + 1))) (nI (m + 1)) σ) : ∀ d b n, b + d = 13 → d < n → w_X5_digest_100 K Q n (z_hr f 4 h0 (18 * m + 5 + b)) (nI m) (nI b) σ := by
  have h10 := h.2.1
  intro d
  induction d with
  | zero =>
    intro b n hb hn
    obtain ⟨n, rfl⟩ : ∃ k, n = k + 1 := ⟨n - 1, by omega⟩
    obtain rfl : b = 13 := by omega
    show wb_X5_digest_100 K Q (w_X5_digest_100 K Q n) _ _ _ _
    unfold wb_X5_digest_100
    refine z_ifp (by decide) ?_
    rintro _ rfl
    rw [nI_1, show 18 * m + 5 + 13 = 18 * (m + 1) by omega]
    exact hK
  | succ d ih =>
    intro b n hb hn
    obtain ⟨n, rfl⟩ : ∃ k, n = k + 1 := ⟨n - 1, by omega⟩
    show wb_X5_digest_100 K Q (w_X5_digest_100 K Q n) _ _ _ _
    unfold wb_X5_digest_100 w_X5_mixed
    rw [z_tn (by omega), z_tn (by omega), ic_read h.1 (by omega) (by omega)]
    refine z_ifn (nI_ge (a := b) (b := 13) (by omega) (by omega)) ⟨z_vin (by omega) (by omega), z_vin (by omega) (by omega), ?_⟩
    rintro _ rfl
    rw [nI_1]
    have := ih (b + 1) n (by omega) (by omega)
    rw [show 18 * m + 5 + (b + 1) = (18 * m + 5 + b) + 1 by omega] at this
    have e : z_hr f 4 h0 (18 * m + 5 + b + 1) = (31 : Int64) * z_hr f 4 h0 (18 * m + 5 + b) + (f (4 + (18 * m + 5 + b))).toInt64 := rfl
    rw [e, show 4 + (18 * m + 5 + b) = 9 + 18 * m + b by omega] at this
    exact this
theorem l_dg188 {f : Nat → Int32} {c r : Nat} {h0 : Int64} {σ : z_S} {Q : Int64 → z_S → Prop} {K : Int64 → Int32 → z_S → Prop} (h : z_rc f c σ) (hr : r < 8) (hK : K (z_hk f c h0 (10 * (r + 1))) (nI (r + 1)) σ) : ∀ d m n, m + d = c → d < n → w_X5_digest_188 K Q n (z_hk f c h0 (10 * r + m)) (nI r) (nI m) σ := by
  have h10 := h.2.1
  intro d
  induction d with
  | zero =>
    intro m n hm hn
    obtain ⟨n, rfl⟩ : ∃ k, n = k + 1 := ⟨n - 1, by omega⟩
    obtain rfl : m = c := by omega
    show wb_X5_digest_188 K Q (w_X5_digest_188 K Q n) _ _ _ _
    unfold wb_X5_digest_188
    rw [rc_cnt h]
    refine z_ifp (nI_le (Nat.le_refl m) (by omega)) ?_
    rintro _ rfl
    rw [nI_1, ← z_hk_skip f m r h0 (10 - m) (by omega), show 10 * r + m + (10 - m) = 10 * (r + 1) by omega]
    exact hK
  | succ d ih =>
    intro m n hm hn
    obtain ⟨n, rfl⟩ : ∃ k, n = k + 1 := ⟨n - 1, by omega⟩
    show wb_X5_digest_188 K Q (w_X5_digest_188 K Q n) _ _ _ _
    unfold wb_X5_digest_188 w_X5_mixed
    rw [rc_cnt h, z_tn (by omega), z_tn (by omega), ic_kept h.1 hr (by omega)]
    refine z_ifn (nI_ge (by omega) (by omega)) ⟨z_vin (by omega) (by omega), z_vin (by omega) (by omega), ?_⟩
    rintro _ rfl
    rw [nI_1]
    have := ih (m + 1) n (by omega) (by omega)
    have e : z_hk f c h0 (10 * r + (m + 1)) = (31 : Int64) * z_hk f c h0 (10 * r + m) + (f (184 + (10 * r + m))).toInt64 := if_pos (show (10 * r + m) % 10 < c by omega)
    rw [e, show 184 + (10 * r + m) = 184 + 10 * r + m by omega] at this
    exact this
theorem l_dg174 {f : Nat → Int32} {c rv : Nat} {h0 : Int64} {σ : z_S} {Q : Int64 → z_S → Prop} (h : z_rc f c σ) (hrv : f 3 = nI rv) (h8 : rv ≤ 8) (hq : Q (z_hk f c h0 (10 * rv)) σ) : ∀ d r n, r + d = rv → d < n → w_X5_digest_174 Q n (z_hk f c h0 (10 * r)) (nI r) σ := by
  have h10 := h.2.1
  intro d
  induction d with
  | zero =>
    intro r n hr hn
    obtain ⟨n, rfl⟩ : ∃ k, n = k + 1 := ⟨n - 1, by omega⟩
    obtain rfl : r = rv := by omega
    show wb_X5_digest_174 Q (w_X5_digest_174 Q n) _ _ _
    unfold wb_X5_digest_174
    rw [ic_0 h.1 (by omega), hrv]
    exact z_ifp (nI_le (Nat.le_refl r) (by omega)) hq
  | succ d ih =>
    intro r n hr hn
    obtain ⟨n, rfl⟩ : ∃ k, n = k + 1 := ⟨n - 1, by omega⟩
    show wb_X5_digest_174 Q (w_X5_digest_174 Q n) _ _ _
    unfold wb_X5_digest_174
    rw [ic_0 h.1 (by omega), hrv]
    exact z_ifn (nI_ge (by omega) (by omega)) (l_dg188 h (by omega) (ih (r + 1) n (by omega) (by omega)) c 0 400 (by omega) (by omega))
theorem l_dg16 {f : Nat → Int32} {c rv : Nat} {h0 : Int64} {σ : z_S} {Q : Int64 → z_S → Prop} (h : z_rc f c σ) (hrv : f 3 = nI rv) (h8 : rv ≤ 8) (hq : Q (z_hk f c (z_hr f 1 (z_hr f 4 h0 (18 * c)) 3) (10 * rv)) σ) : ∀ d m n, m + d = c → d < n → w_X5_digest_16 Q n (z_hr f 4 h0 (18 * m)) (nI m) σ := by
  have h10 := h.2.1
  intro d
  induction d with
  | zero =>
    intro m n hm hn
    obtain ⟨n, rfl⟩ : ∃ k, n = k + 1 := ⟨n - 1, by omega⟩
    obtain rfl : m = c := by omega
    show wb_X5_digest_16 Q (w_X5_digest_16 Q n) _ _ _
    unfold wb_X5_digest_16 w_X5_mixed
    dsimp only
    rw [rc_cnt h, ic_0 h.1 (show 1 < 4 by omega), ic_0 h.1 (show 2 < 4 by omega), ic_0 h.1 (show 3 < 4 by omega)]
    exact z_ifp (nI_le (Nat.le_refl m) (by omega)) (l_dg174 h hrv h8 hq rv 0 400 (by omega) (by omega))
  | succ d ih =>
    intro m n hm hn
    obtain ⟨n, rfl⟩ : ∃ k, n = k + 1 := ⟨n - 1, by omega⟩
    show wb_X5_digest_16 Q (w_X5_digest_16 Q n) _ _ _
    unfold wb_X5_digest_16 w_X5_mixed
    dsimp only
    have hm10 : m < 10 := by omega
    rw [rc_cnt h, z_tn (by omega), show zg_i σ 2 m = f (4 + (18 * m + 0)) by rw [ic_col 0 h.1 (by omega) hm10]; congr 1, show zg_i σ 3 m = f (4 + (18 * m + 1)) by rw [ic_col 1 h.1 (by omega) hm10]; congr 1, show zg_i σ 4 m = f (4 + (18 * m + 2)) by rw [ic_col 2 h.1 (by omega) hm10]; congr 1, show zg_i σ 5 m = f (4 + (18 * m + 3)) by rw [ic_col 3 h.1 (by omega) hm10]; congr 1, show zg_i σ 6 m = f (4 + (18 * m + 4)) by rw [ic_col 4 h.1 (by omega) hm10]; congr 1]
    have v := z_vin (i := m) (n := 10) (by omega) (by omega)
    exact z_ifn (nI_ge (by omega) (by omega)) ⟨v, v, v, v, v, l_dg100 h (by omega) (ih (m + 1) n (by omega) (by omega)) 13 0 400 (by omega) (by omega)⟩
theorem l_dgM82 {f : Nat → Int32} {c rv : Nat} {h0 : Int64} {σ : z_S} {Q : Int64 → z_S → Prop} (h : z_rm f c σ) (hrv : f 3 = nI rv) (h8 : rv ≤ 8) (hq : ∀ τ, z_li σ τ → Q (z_hk f c h0 (10 * rv)) τ) : ∀ d k n, k + d = 10 * rv → d < n → ∀ τ, z_li σ τ → zg_l τ 73 12 = z_hk f c h0 k → w_X6_digest_82 Q n (nI k) τ := by
  have h10 := h.2.1
  intro d
  induction d with
  | zero =>
    intro k n hk hn τ hτ hl
    obtain ⟨n, rfl⟩ : ∃ k, n = k + 1 := ⟨n - 1, by omega⟩
    obtain rfl : k = 10 * rv := by omega
    show wb_X6_digest_82 Q (w_X6_digest_82 Q n) _ _
    unfold wb_X6_digest_82
    have hr := z_rm_ms h (z_li_ms hτ)
    rw [show (3 : Int32).toNatClampNeg = 3 from rfl, im_at hr.1 (by omega), hrv, show (10 : Int32) * nI rv = nI (10 * rv) by rw [show (10 : Int32) = nI 10 from rfl, nI_mul], hl]
    exact ⟨z_vin (i := 3) (by omega) (by omega), z_ifp (nI_le (Nat.le_refl _) (by omega)) (hq τ hτ)⟩
  | succ d ih =>
    intro k n hk hn τ hτ hl
    obtain ⟨n, rfl⟩ : ∃ k, n = k + 1 := ⟨n - 1, by omega⟩
    show wb_X6_digest_82 Q (w_X6_digest_82 Q n) _ _
    unfold wb_X6_digest_82
    have hr := z_rm_ms h (z_li_ms hτ)
    rw [show (3 : Int32).toNatClampNeg = 3 from rfl, im_at hr.1 (by omega), hrv, show (10 : Int32) * nI rv = nI (10 * rv) by rw [show (10 : Int32) = nI 10 from rfl, nI_mul], show nI k - nI k / 10 * 10 = nI (k % 10) from pk_rem (a := k) (d := 10) (by omega) (by omega) (by omega)]
    refine ⟨z_vin (i := 3) (by omega) (by omega), z_ifn (nI_ge (by omega) (by omega)) ⟨by decide, ?_⟩⟩
    have e : z_hk f c h0 (k + 1) = if k % 10 < c then (31 : Int64) * z_hk f c h0 k + (f (184 + k)).toInt64 else z_hk f c h0 k := rfl
    by_cases g : k % 10 < c
    · rw [if_pos g] at e
      refine s_isMeter_y hr.1 h.2.2.1 h10 g (z_ifn (by decide) ?_)
      unfold w_X6_note w_X6_digest_120
      rw [show (184 : Int32) + nI k = nI (184 + k) by rw [show (184 : Int32) = nI 184 from rfl, nI_add], z_tn (by omega), im_at hr.1 (by omega), hl, ← e]
      refine ⟨z_vin (by omega) (by omega), ?_⟩
      rintro _ rfl _ rfl
      rw [nI_1]
      exact ih (k + 1) n (by omega) (by omega) _ (z_li_tr hτ z_li_l) zl_at
    · rw [if_neg g] at e
      refine s_isMeter_n hr.1 h.2.2.1 h10 (fun m hm q => g (by rw [(nI_eq (by omega) (by omega)).mp q]; exact hm)) (z_ifp rfl ?_)
      unfold w_X6_digest_120
      rintro _ rfl
      rw [nI_1]
      exact ih (k + 1) n (by omega) (by omega) τ hτ (by rw [e]; exact hl)
theorem l_dgM19 {f : Nat → Int32} {c rv : Nat} {h0 : Int64} {σ : z_S} {Q : Int64 → z_S → Prop} (h : z_rm f c σ) (hrv : f 3 = nI rv) (h8 : rv ≤ 8) (hq : ∀ τ, z_li σ τ → Q (z_hk f c (z_hr f 1 (z_hr f 4 h0 (18 * c)) 3) (10 * rv)) τ) : ∀ d k n, k + d = 18 * c → d < n → ∀ τ, z_li σ τ → zg_l τ 73 12 = z_hr f 4 h0 k → w_X6_digest_19 Q n (nI k) τ := by
  have h10 := h.2.1
  intro d
  induction d with
  | zero =>
    intro k n hk hn τ hτ hl
    obtain ⟨n, rfl⟩ : ∃ k, n = k + 1 := ⟨n - 1, by omega⟩
    obtain rfl : k = 18 * c := by omega
    show wb_X6_digest_19 Q (w_X6_digest_19 Q n) _ _
    unfold wb_X6_digest_19 w_X6_note
    have hr := z_rm_ms h (z_li_ms hτ)
    have h74 : zg_i τ 74 = zg_i σ 74 := by rw [hτ.1]
    rw [show (0 : Int32).toNatClampNeg = 0 from rfl, show (1 : Int32).toNatClampNeg = 1 from rfl, show (2 : Int32).toNatClampNeg = 2 from rfl, show (3 : Int32).toNatClampNeg = 3 from rfl, rm_cnt hr, show (18 : Int32) * nI c = nI (18 * c) by rw [show (18 : Int32) = nI 18 from rfl, nI_mul], im_at hr.1 (show 1 < 264 by omega), hl]
    refine ⟨z_vin (i := 0) (by omega) (by omega), z_ifp (nI_le (Nat.le_refl _) (by omega)) ⟨z_vin (i := 1) (by omega) (by omega), ?_⟩⟩
    rintro _ rfl
    refine ⟨z_vin (i := 2) (by omega) (by omega), ?_⟩
    rw [zl_at, zg_i_sl, im_at hr.1 (show 2 < 264 by omega)]
    rintro _ rfl
    refine ⟨z_vin (i := 3) (by omega) (by omega), ?_⟩
    rw [zl_at, zg_i_sl, zg_i_sl, im_at hr.1 (show 3 < 264 by omega)]
    rintro _ rfl
    exact l_dgM82 h hrv h8 hq (10 * rv) 0 400 (by omega) (by omega) _ (z_li_tr hτ (z_li_tr z_li_l (z_li_tr z_li_l z_li_l))) zl_at
  | succ d ih =>
    intro k n hk hn τ hτ hl
    obtain ⟨n, rfl⟩ : ∃ k, n = k + 1 := ⟨n - 1, by omega⟩
    show wb_X6_digest_19 Q (w_X6_digest_19 Q n) _ _
    unfold wb_X6_digest_19 w_X6_note
    have hr := z_rm_ms h (z_li_ms hτ)
    rw [show (0 : Int32).toNatClampNeg = 0 from rfl, rm_cnt hr, show (18 : Int32) * nI c = nI (18 * c) by rw [show (18 : Int32) = nI 18 from rfl, nI_mul], show (4 : Int32) + nI k = nI (4 + k) by rw [show (4 : Int32) = nI 4 from rfl, nI_add], z_tn (by omega), im_at hr.1 (show 4 + k < 264 by omega), hl]
    refine ⟨z_vin (i := 0) (by omega) (by omega), z_ifn (nI_ge (by omega) (by omega)) ⟨z_vin (by omega) (by omega), ?_⟩⟩
    rintro _ rfl _ rfl
    rw [nI_1]
    exact ih (k + 1) n (by omega) (by omega) _ (z_li_tr hτ z_li_l) zl_at
theorem op_digest {σ : z_S} {K : Int64 → Int64 → z_S → Prop} (h : z_Inv σ) (hK : ∀ r σ2, z_Inv σ2 → K r r σ2) : w_X5_digest σ (fun r σ1 => w_X6_digest σ1 (fun r2 σ2 => K r r2 σ2)) := by
  obtain ⟨f, c, sv, F, len, tx, hC, hM, hG⟩ := h
  have h10 := hG.1.1
  obtain ⟨rv, hrv8, hrv⟩ := hG.1.2.2.2.2.1
  refine z_comb (wC := fun Q => w_X5_digest σ Q) (wM := fun σ1 Q => w_X6_digest σ1 Q) (r := z_hk f c (z_hr f 1 (z_hr f 4 ((31 : Int64) * 17 + (f 0).toInt64) (18 * c)) 3) (10 * rv)) hM hG (fun Q hq => ?_) (fun σ1 h1 Q hq => ?_) hK
  · unfold w_X5_digest w_X5_mixed
    rw [ic_0 hC.2.1 (show 0 < 4 by omega)]
    exact l_dg16 ⟨hC.2.1, hG.1⟩ hrv hrv8 (hq σ hC (z_mf_rfl σ)) c 0 400 (by omega) (by omega)
  · unfold w_X6_digest w_X6_note
    rintro _ rfl
    rw [show (0 : Int32).toNatClampNeg = 0 from rfl, zg_i_sl, zl_at, im_at h1.2.1 (show 0 < 264 by omega)]
    refine ⟨z_vin (i := 0) (by omega) (by omega), ?_⟩
    rintro _ rfl
    exact l_dgM19 (h0 := (31 : Int64) * 17 + (f 0).toInt64) ⟨h1.2.1, hG.1⟩ hrv hrv8 (fun τ hτ => hq τ (z_IM_ms h1 (z_li_ms hτ)) (z_ms_cf (z_li_ms hτ))) (18 * c) 0 400 (by omega) (by omega) _ (z_li_tr z_li_l z_li_l) zl_at
