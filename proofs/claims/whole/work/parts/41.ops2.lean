/-! setRules, billOf, changed, type, clearText, undo -/
theorem z_IC_ext {f f' : Nat → Int32} {sv : Nat} {F : Nat → Nat → Int32} {len : Nat} {tx : Nat → Int32} {σ : z_S} (h : z_IC f sv F len tx σ) (he : ∀ x, x < 264 → f x = f' x) : z_IC f' sv F len tx σ := ⟨h.1, fun x hx => (h.2.1 x hx).trans (he x hx), h.2.2⟩
theorem z_IM_ext {f f' : Nat → Int32} {sv : Nat} {F : Nat → Nat → Int32} {len : Nat} {tx : Nat → Int32} {σ : z_S} (h : z_IM f sv F len tx σ) (he : ∀ x, x < 264 → f x = f' x) : z_IM f' sv F len tx σ := ⟨h.1, fun x hx => (h.2.1 x hx).trans (he x hx), h.2.2⟩
theorem fine_rules {f : Nat → Int32} {c x y : Nat} (h : z_fine f c) (h1 : 2 ≤ x) (h2 : x ≤ 20) (h3 : y ≤ 1000) : z_fine (z_fup (z_fup f 1 (nI x)) 2 (nI y)) c := by
  obtain ⟨g1, g2, g3, g4, g5, g6, g7, g8⟩ := h
  have ne : ∀ z, z ≠ 1 → z ≠ 2 → z_fup (z_fup f 1 (nI x)) 2 (nI y) z = f z := fun z hz hz2 => by rw [z_fup_ne _ _ hz2, z_fup_ne _ _ hz]
  refine ⟨g1, by rw [ne _ (by omega) (by omega)]; exact g2, ⟨x, h1, h2, by rw [z_fup_ne _ _ (by omega)]; exact z_fup_at _ _ _⟩, ⟨y, h3, z_fup_at _ _ _⟩, by rw [ne _ (by omega) (by omega)]; exact g5, by rw [ne _ (by omega) (by omega)]; exact g6, fun q q1 q2 => by rw [ne _ (by omega) (by omega)]; exact g7 q q1 q2, fun q hq => ?_⟩
  obtain ⟨a1, a3, a4, d, d1, d2, d3, d4⟩ := g8 q hq
  exact ⟨by rw [ne _ (by omega) (by omega)]; exact a1, by rw [ne _ (by omega) (by omega)]; exact a3, by rw [ne _ (by omega) (by omega)]; exact a4, d, d1, d2, by rw [ne _ (by omega) (by omega)]; exact d3, fun b hb => by rw [ne _ (by omega) (by omega)]; exact d4 b hb⟩
theorem op_setRules {σ : z_S} {K : Int32 → Int32 → z_S → Prop} (a b : Int32) (h : z_Inv σ) (hK : ∀ r σ2, z_Inv σ2 → K r r σ2) : w_X5_setRules a b σ (fun r σ1 => w_X6_setRules a b σ1 (fun r2 σ2 => K r r2 σ2)) := by
  obtain ⟨f, c, sv, F, len, tx, hC, hM, hG⟩ := h
  rcases z_cas2 a 2 20 with ⟨x, hx1, hx2, rfl⟩ | hn2
  · rcases z_cas2 b 0 1000 with ⟨y, hy1, hy2, rfl⟩ | hn3
    · refine z_comb (wC := fun Q => w_X5_setRules (nI x) (nI y) σ Q) (wM := fun σ1 Q => w_X6_setRules (nI x) (nI y) σ1 Q) (r := f 1) hM (z_GD_rec hG (fine_rules hG.1 hx1 hx2 hy2)) (fun Q hq => ?_) (fun σ1 h1 Q hq => ?_) hK
      · unfold w_X5_setRules
        refine s_within_y (lo := 2) (hi := 20) (by decide) hx1 hx2 (z_ifn (by decide) (s_within_y (lo := 0) (hi := 1000) (by decide) hy1 hy2 (z_ifn (by decide) ?_)))
        refine push_IC hC (fun τ ht hmf => ?_)
        rw [ic_0 ht.2.1 (by omega)]
        rintro _ rfl _ rfl _ rfl
        exact hq _ (ic_set0 (ic_set0 ht (by omega)) (by omega)) (z_mf_tr hmf (z_mf_tr (z_mf_i (by omega)) (z_mf_i (by omega))))
      · unfold w_X6_setRules
        refine s_in_y (lo := 2) (hi := 20) (by decide) hx1 hx2 (z_ifn (by decide) (s_in_y (lo := 0) (hi := 1000) (by decide) hy1 hy2 (z_ifn (by decide) ?_)))
        refine saves_IM hG.2.1 h1 (fun τ ht hcf => ⟨z_vin (i := 1) (by omega) (by omega), ?_⟩)
        rw [show (1 : Int32).toNatClampNeg = 1 from rfl, im_at ht.2.1 (by omega), show (2 : Int32).toNatClampNeg = 2 from rfl]
        rintro _ rfl
        refine ⟨z_vin (i := 1) (by omega) (by omega), ?_⟩
        rintro _ rfl
        refine ⟨z_vin (i := 2) (by omega) (by omega), ?_⟩
        rintro _ rfl
        exact hq _ (im_set (im_set ht (by omega)) (by omega)) (z_cf_tr hcf (z_cf_tr (z_cf_i (by omega) (by omega)) (z_cf_i (by omega) (by omega))))
    · refine z_comb (wC := fun Q => w_X5_setRules (nI x) b σ Q) (wM := fun σ1 Q => w_X6_setRules (nI x) b σ1 Q) (r := -2000000002) hM hG (fun Q hq => ?_) (fun σ1 h1 Q hq => ?_) hK
      · unfold w_X5_setRules
        exact s_within_y (lo := 2) (hi := 20) (by decide) hx1 hx2 (z_ifn (by decide) (s_within_n (lo := 0) (hi := 1000) (by omega) (by omega) hn3 (z_ifp rfl (hq σ hC (z_mf_rfl σ)))))
      · unfold w_X6_setRules
        exact s_in_y (lo := 2) (hi := 20) (by decide) hx1 hx2 (z_ifn (by decide) (s_in_n (lo := 0) (hi := 1000) (by omega) (by omega) hn3 (z_ifp rfl (hq σ1 h1 (z_cf_rfl σ1)))))
  · refine z_comb (wC := fun Q => w_X5_setRules a b σ Q) (wM := fun σ1 Q => w_X6_setRules a b σ1 Q) (r := -2000000002) hM hG (fun Q hq => ?_) (fun σ1 h1 Q hq => ?_) hK
    · unfold w_X5_setRules
      exact s_within_n (lo := 2) (hi := 20) (by omega) (by omega) hn2 (z_ifp rfl (hq σ hC (z_mf_rfl σ)))
    · unfold w_X6_setRules
      exact s_in_n (lo := 2) (hi := 20) (by omega) (by omega) hn2 (z_ifp rfl (hq σ1 h1 (z_cf_rfl σ1)))
theorem s_hasRev {σ : z_S} {Q : Int32 → z_S → Prop} {x : Int32} {c : Nat} (hc : zg_i σ 1 3 = nI c) (h10 : c ≤ 8) (h1 : ∀ m, m < c → x = nI m → Q 1 σ) (h0 : (∀ m, m < c → x ≠ nI m) → Q 0 σ) : w_X4_hasRevision x σ Q := by
  unfold w_X4_hasRevision
  rw [hc]
  refine z_ite (fun hx => ⟨Or.inl rfl, h0 (fun m hm e => ?_)⟩) (fun hx => z_ite (fun hx2 => ⟨Or.inl rfl, h0 (fun m hm e => ?_)⟩) (fun hx2 => ⟨Or.inr rfl, ?_⟩))
  · rw [e] at hx
    exact nI_pos (by omega) hx
  · rw [e] at hx2
    exact nI_ge hm (by omega) hx2
  · obtain ⟨m, hm, e⟩ := z_ltn hx (Int32.not_le.mp hx2) (by omega)
    exact h1 m hm e
theorem s_hasRev_y {σ : z_S} {Q : Int32 → z_S → Prop} {m c : Nat} (hc : zg_i σ 1 3 = nI c) (h10 : c ≤ 8) (hm : m < c) (q : Q 1 σ) : w_X4_hasRevision (nI m) σ Q := s_hasRev hc h10 (fun _ _ _ => q) (fun h => absurd rfl (h m hm))
theorem s_hasRev_n {σ : z_S} {Q : Int32 → z_S → Prop} {x : Int32} {c : Nat} (hc : zg_i σ 1 3 = nI c) (h10 : c ≤ 8) (hm : ∀ m, m < c → x ≠ nI m) (q : Q 0 σ) : w_X4_hasRevision x σ Q := s_hasRev hc h10 (fun m h e => absurd e (hm m h)) (fun _ => q)
theorem s_isRev {σ : z_S} {Q : Int32 → z_S → Prop} {x : Int32} {f : Nat → Int32} {c : Nat} (h : ∀ x, x < 264 → zm σ 0 x = f x) (hc : f 3 = nI c) (h10 : c ≤ 8) (h1 : ∀ m, m < c → x = nI m → Q 1 σ) (h0 : (∀ m, m < c → x ≠ nI m) → Q 0 σ) : w_X6_isRevision x σ Q := by
  unfold w_X6_isRevision
  rw [show (3 : Int32).toNatClampNeg = 3 from rfl, im_at h (by omega), hc]
  exact ⟨z_vin (i := 3) (by omega) (by omega), s_inn (by omega) (fun m hm e => ⟨Or.inr rfl, h1 m hm e⟩) (fun q => ⟨Or.inl rfl, h0 q⟩)⟩
theorem s_isRev_y {σ : z_S} {Q : Int32 → z_S → Prop} {f : Nat → Int32} {m c : Nat} (h : ∀ x, x < 264 → zm σ 0 x = f x) (hc : f 3 = nI c) (h10 : c ≤ 8) (hm : m < c) (q : Q 1 σ) : w_X6_isRevision (nI m) σ Q := s_isRev h hc h10 (fun _ _ _ => q) (fun h => absurd rfl (h m hm))
theorem s_isRev_n {σ : z_S} {Q : Int32 → z_S → Prop} {f : Nat → Int32} {x : Int32} {c : Nat} (h : ∀ x, x < 264 → zm σ 0 x = f x) (hc : f 3 = nI c) (h10 : c ≤ 8) (hm : ∀ m, m < c → x ≠ nI m) (q : Q 0 σ) : w_X6_isRevision x σ Q := s_isRev h hc h10 (fun m h e => absurd e (hm m h)) (fun _ => q)
theorem s_kept {σ : z_S} {Q : Int32 → z_S → Prop} {f : Nat → Int32} {r m : Nat} (h : ∀ x, x < 264 → zm σ 0 x = f x) (hr : r < 8) (hm : m < 10) (hq : Q (f (184 + 10 * r + m)) σ) : w_X6_kept (nI r) (nI m) σ Q := by
  unfold w_X6_kept
  have e : ((184 : Int32) + ((10 : Int32) * nI r)) + nI m = nI (184 + 10 * r + m) := by
    rw [show (184 : Int32) = nI 184 from rfl, show (10 : Int32) = nI 10 from rfl, nI_mul, nI_add, nI_add]
  rw [e, z_tn (by omega), im_at h (by omega)]
  exact ⟨z_vin (by omega) (by omega), hq⟩
theorem op_billOf {σ : z_S} {K : Int32 → Int32 → z_S → Prop} (a b : Int32) (h : z_Inv σ) (hK : ∀ r σ2, z_Inv σ2 → K r r σ2) : w_X5_billOf a b σ (fun r σ1 => w_X6_billOf a b σ1 (fun r2 σ2 => K r r2 σ2)) := by
  obtain ⟨f, c, sv, F, len, tx, hC, hM, hG⟩ := h
  have h10 := hG.1.1
  have hc := hG.1.2.1
  obtain ⟨rv, hrv, h3⟩ := hG.1.2.2.2.2.1
  have hcc : zg_i σ 1 0 = nI c := by rw [ic_0 hC.2.1 (by omega)]; exact hc
  have hc3 : zg_i σ 1 3 = nI rv := by rw [ic_0 hC.2.1 (by omega)]; exact h3
  rcases z_cas a rv with ⟨r, hr, rfl⟩ | hn
  · rcases z_cas b c with ⟨m, hm, rfl⟩ | hn2
    · refine z_comb (wC := fun Q => w_X5_billOf (nI r) (nI m) σ Q) (wM := fun σ1 Q => w_X6_billOf (nI r) (nI m) σ1 Q) (r := f (184 + 10 * r + m)) hM hG (fun Q hq => ?_) (fun σ1 h1 Q hq => ?_) hK
      · unfold w_X5_billOf
        refine s_hasRev_y hc3 hrv hr (z_ifn (by decide) (s_has_y hcc h10 hm (z_ifn (by decide) ⟨z_vin (by omega) (by omega), z_vin (by omega) (by omega), ?_⟩)))
        rw [z_tn (by omega), z_tn (by omega), ic_kept hC.2.1 (by omega) (by omega)]
        exact hq σ hC (z_mf_rfl σ)
      · unfold w_X6_billOf
        exact s_isRev_y h1.2.1 h3 hrv hr (z_ifn (by decide) (s_isMeter_y h1.2.1 hc h10 hm (z_ifn (by decide) (s_kept h1.2.1 (by omega) (by omega) (hq σ1 h1 (z_cf_rfl σ1))))))
    · refine z_comb (wC := fun Q => w_X5_billOf (nI r) b σ Q) (wM := fun σ1 Q => w_X6_billOf (nI r) b σ1 Q) (r := -2000000001) hM hG (fun Q hq => ?_) (fun σ1 h1 Q hq => ?_) hK
      · unfold w_X5_billOf
        exact s_hasRev_y hc3 hrv hr (z_ifn (by decide) (s_has_n hcc h10 hn2 (z_ifp rfl (hq σ hC (z_mf_rfl σ)))))
      · unfold w_X6_billOf
        exact s_isRev_y h1.2.1 h3 hrv hr (z_ifn (by decide) (s_isMeter_n h1.2.1 hc h10 hn2 (z_ifp rfl (hq σ1 h1 (z_cf_rfl σ1)))))
  · refine z_comb (wC := fun Q => w_X5_billOf a b σ Q) (wM := fun σ1 Q => w_X6_billOf a b σ1 Q) (r := -2000000001) hM hG (fun Q hq => ?_) (fun σ1 h1 Q hq => ?_) hK
    · unfold w_X5_billOf
      exact s_hasRev_n hc3 hrv hn (z_ifp rfl (hq σ hC (z_mf_rfl σ)))
    · unfold w_X6_billOf
      exact s_isRev_n h1.2.1 h3 hrv hn (z_ifp rfl (hq σ1 h1 (z_cf_rfl σ1)))
/-- a bill, 0 for a meter that there was not -/
def z_nz (v : Int32) : Int32 := if v = -2000000000 then 0 else v
theorem s_nz {σ : z_S} {Q : Int32 → z_S → Prop} {v : Int32} (h : Q (z_nz v) σ) : w_X5_noneAsZero v σ Q := by
  unfold w_X5_noneAsZero
  unfold z_nz at h
  by_cases e : v = -2000000000
  · rw [if_pos e] at h ⊢
    exact h
  · rw [if_neg e] at h ⊢
    exact h
theorem op_changed {σ : z_S} {K : Int32 → Int32 → z_S → Prop} (a b d : Int32) (h : z_Inv σ) (hK : ∀ r σ2, z_Inv σ2 → K r r σ2) : w_X5_changed a b d σ (fun r σ1 => w_X6_changed a b d σ1 (fun r2 σ2 => K r r2 σ2)) := by
  obtain ⟨f, c, sv, F, len, tx, hC, hM, hG⟩ := h
  have h10 := hG.1.1
  have hc := hG.1.2.1
  obtain ⟨rv, hrv, h3⟩ := hG.1.2.2.2.2.1
  have hcc : zg_i σ 1 0 = nI c := by rw [ic_0 hC.2.1 (by omega)]; exact hc
  have hc3 : zg_i σ 1 3 = nI rv := by rw [ic_0 hC.2.1 (by omega)]; exact h3
  rcases z_cas a rv with ⟨r, hr, rfl⟩ | hn
  · rcases z_cas b rv with ⟨q, hq2, rfl⟩ | hn1
    · rcases z_cas d c with ⟨m, hm, rfl⟩ | hn2
      · refine z_comb (wC := fun Q => w_X5_changed (nI r) (nI q) (nI m) σ Q) (wM := fun σ1 Q => w_X6_changed (nI r) (nI q) (nI m) σ1 Q) (r := z_nz (f (184 + 10 * q + m)) - z_nz (f (184 + 10 * r + m))) hM hG (fun Q hq => ?_) (fun σ1 h1 Q hq => ?_) hK
        · unfold w_X5_changed
          refine s_hasRev_y hc3 hrv hr (z_ifn (by decide) (s_hasRev_y hc3 hrv hq2 (z_ifn (by decide) (s_has_y hcc h10 hm (z_ifn (by decide) ⟨z_vin (by omega) (by omega), z_vin (by omega) (by omega), s_nz ⟨z_vin (by omega) (by omega), z_vin (by omega) (by omega), s_nz ?_⟩⟩)))))
          rw [z_tn (by omega), z_tn (by omega), z_tn (by omega), ic_kept hC.2.1 (by omega) (by omega), ic_kept hC.2.1 (by omega) (by omega)]
          exact hq σ hC (z_mf_rfl σ)
        · unfold w_X6_changed
          refine s_isRev_y h1.2.1 h3 hrv hr (z_ifn (by decide) (s_isRev_y h1.2.1 h3 hrv hq2 (z_ifn (by decide) (s_isMeter_y h1.2.1 hc h10 hm (z_ifn (by decide) (s_kept h1.2.1 (by omega) (by omega) ?_))))))
          have key : ∀ s0, s0 = z_nz (f (184 + 10 * r + m)) → w_X6_changed_48 Q (nI q) (nI m) s0 σ1 := by
            rintro _ rfl
            unfold w_X6_changed_48
            refine s_kept h1.2.1 (by omega) (by omega) (z_ite (fun e => ?_) (fun e => s_kept h1.2.1 (by omega) (by omega) ?_))
            · have := hq σ1 h1 (z_cf_rfl σ1)
              rw [show z_nz (f (184 + 10 * q + m)) = 0 from if_pos e] at this
              exact this
            · have := hq σ1 h1 (z_cf_rfl σ1)
              rw [show z_nz (f (184 + 10 * q + m)) = f (184 + 10 * q + m) from if_neg e] at this
              exact this
          exact z_ite (fun e => key _ (if_pos e).symm) (fun e => s_kept h1.2.1 (by omega) (by omega) (key _ (if_neg e).symm))
      · refine z_comb (wC := fun Q => w_X5_changed (nI r) (nI q) d σ Q) (wM := fun σ1 Q => w_X6_changed (nI r) (nI q) d σ1 Q) (r := -2000000001) hM hG (fun Q hq => ?_) (fun σ1 h1 Q hq => ?_) hK
        · unfold w_X5_changed
          exact s_hasRev_y hc3 hrv hr (z_ifn (by decide) (s_hasRev_y hc3 hrv hq2 (z_ifn (by decide) (s_has_n hcc h10 hn2 (z_ifp rfl (hq σ hC (z_mf_rfl σ)))))))
        · unfold w_X6_changed
          exact s_isRev_y h1.2.1 h3 hrv hr (z_ifn (by decide) (s_isRev_y h1.2.1 h3 hrv hq2 (z_ifn (by decide) (s_isMeter_n h1.2.1 hc h10 hn2 (z_ifp rfl (hq σ1 h1 (z_cf_rfl σ1)))))))
    · refine z_comb (wC := fun Q => w_X5_changed (nI r) b d σ Q) (wM := fun σ1 Q => w_X6_changed (nI r) b d σ1 Q) (r := -2000000001) hM hG (fun Q hq => ?_) (fun σ1 h1 Q hq => ?_) hK
      · unfold w_X5_changed
        exact s_hasRev_y hc3 hrv hr (z_ifn (by decide) (s_hasRev_n hc3 hrv hn1 (z_ifp rfl (hq σ hC (z_mf_rfl σ)))))
      · unfold w_X6_changed
        exact s_isRev_y h1.2.1 h3 hrv hr (z_ifn (by decide) (s_isRev_n h1.2.1 h3 hrv hn1 (z_ifp rfl (hq σ1 h1 (z_cf_rfl σ1)))))
  · refine z_comb (wC := fun Q => w_X5_changed a b d σ Q) (wM := fun σ1 Q => w_X6_changed a b d σ1 Q) (r := -2000000001) hM hG (fun Q hq => ?_) (fun σ1 h1 Q hq => ?_) hK
    · unfold w_X5_changed
      exact s_hasRev_n hc3 hrv hn (z_ifp rfl (hq σ hC (z_mf_rfl σ)))
    · unfold w_X6_changed
      exact s_isRev_n h1.2.1 h3 hrv hn (z_ifp rfl (hq σ1 h1 (z_cf_rfl σ1)))
theorem op_clearText {σ : z_S} {K : Int32 → Int32 → z_S → Prop} (h : z_Inv σ) (hK : ∀ r σ2, z_Inv σ2 → K r r σ2) : w_X5_clearText σ (fun r σ1 => w_X6_clearText σ1 (fun r2 σ2 => K r r2 σ2)) := by
  obtain ⟨f, c, sv, F, len, tx, hC, hM, hG⟩ := h
  refine z_comb (wC := fun Q => w_X5_clearText σ Q) (wM := fun σ1 Q => w_X6_clearText σ1 Q) (r := nI len) (len' := 0) (f' := f) (sv' := sv) (F' := F) (tx' := tx) hM ⟨hG.1, hG.2.1, hG.2.2.1, by omega, fun j hj => absurd hj (by omega)⟩ (fun Q hq => ?_) (fun σ1 h1 Q hq => ?_) hK
  · unfold w_X5_clearText
    rw [hC.2.2.2.1]
    rintro _ rfl _ rfl
    obtain ⟨⟨a, g1, g2, g3, g4, g5, g6⟩, h2, h3, h4, h5⟩ := hC
    have hne : ∀ p, p ≠ 68 → zg_i (zs_i σ 68 1 0) p = zg_i σ p := fun p hp => zs_i_ne hp
    refine hq _ ⟨⟨a, g1, g2, g3, by rw [hne 27 (by omega)]; exact g4, g5, g6⟩, fun x hx => ?_, fun j x hj hx => ?_, zs_i_at, fun j hj => by rw [hne 69 (by omega)]; exact h5 j hj⟩ (z_mf_i (by omega))
    · rw [← h2 x hx]
      exact zv_eq (fun p q1 q2 => hne p (by omega)) hx
    · rw [← h3 j x hj hx]
      obtain ⟨f', hf, -⟩ := g6
      have e : zb σ j = 81 + 26 * f' j := by unfold zb; rw [(hf j (by omega)).1]; rfl
      show zv _ (zb σ j) x = _
      rw [e]
      exact zv_eq (fun p q1 q2 => hne p (by omega)) hx
  · unfold w_X6_clearText
    rw [h1.2.2.2.1]
    rintro _ rfl _ rfl
    obtain ⟨m1, m2, m3, m4, m5⟩ := h1
    refine hq _ ⟨by rw [zs_i_nej (by omega)]; exact m1, fun x hx => by rw [zm_73]; exact m2 x hx, fun j x hj hx => by rw [zm_73]; exact m3 j x hj hx, zs_i_at, fun j hj => by rw [zs_i_ne (by omega)]; exact m5 j hj⟩ (z_cf_i (by omega) (by omega))
theorem op_type {σ : z_S} {K : Int32 → Int32 → z_S → Prop} (a : Int32) (h : z_Inv σ) (hK : ∀ r σ2, z_Inv σ2 → K r r σ2) : w_X5_type a σ (fun r σ1 => w_X6_type a σ1 (fun r2 σ2 => K r r2 σ2)) := by
  obtain ⟨f, c, sv, F, len, tx, hC, hM, hG⟩ := h
  have hlen := hG.2.2.2.1
  rcases z_cas2 a 0 255 with ⟨x, hx1, hx2, rfl⟩ | hn2
  · by_cases hl : len < 120
    · refine z_comb (wC := fun Q => w_X5_type (nI x) σ Q) (wM := fun σ1 Q => w_X6_type (nI x) σ1 Q) (r := nI (len + 1)) (len' := len + 1) (f' := f) (sv' := sv) (F' := F) (tx' := z_fup tx len (nI x)) hM ⟨hG.1, hG.2.1, hG.2.2.1, by omega, fun j hj => ?_⟩ (fun Q hq => ?_) (fun σ1 h1 Q hq => ?_) hK
      · by_cases e : j = len
        · subst e
          exact ⟨x, by omega, z_fup_at _ _ _⟩
        · rw [z_fup_ne _ _ e]
          exact hG.2.2.2.2 j (by omega)
      · unfold w_X5_type
        refine s_within_y (lo := 0) (hi := 255) (by decide) hx1 hx2 (z_ifn (by decide) ?_)
        rw [hC.2.2.2.1]
        refine z_ifp (nI_lt (b := 120) hl (by decide)) ⟨z_vin hl (by omega), ?_⟩
        rw [z_tn (by omega)]
        rintro _ rfl
        rw [zs_i_ne (show (68 : Nat) ≠ 69 by omega), hC.2.2.2.1, show nI len + (1 : Int32) = nI (len + 1) from nI_1 len]
        rintro _ rfl
        rw [zs_i_at]
        obtain ⟨⟨a, g1, g2, g3, g4, g5, g6⟩, h2, h3, h4, h5⟩ := hC
        have hne : ∀ p, p ≠ 68 → p ≠ 69 → zg_i (zs_i (zs_i σ 69 len (nI x)) 68 1 (nI (len + 1))) p = zg_i σ p := fun p hp hp2 => by rw [zs_i_ne hp, zs_i_ne hp2]
        refine hq _ ⟨⟨a, g1, g2, g3, by rw [hne 27 (by omega) (by omega)]; exact g4, g5, g6⟩, fun x hx => ?_, fun j x hj hx => ?_, zs_i_at, fun j hj => ?_⟩ (z_mf_tr (z_mf_i (by omega)) (z_mf_i (by omega)))
        · rw [← h2 x hx]
          exact zv_eq (fun p q1 q2 => hne p (by omega) (by omega)) hx
        · rw [← h3 j x hj hx]
          obtain ⟨f', hf, -⟩ := g6
          have e : zb σ j = 81 + 26 * f' j := by unfold zb; rw [(hf j (by omega)).1]; rfl
          show zv _ (zb σ j) x = _
          rw [e]
          exact zv_eq (fun p q1 q2 => hne p (by omega) (by omega)) hx
        · rw [zs_i_ne (by omega), zg_i_si]
          unfold z_fup
          by_cases e : j = len
          · rw [if_pos ⟨rfl, e⟩, if_pos e]
          · rw [if_neg (fun q => e q.2), if_neg e]
            exact h5 j hj
      · unfold w_X6_type
        refine s_in_y (lo := 0) (hi := 255) (by decide) hx1 hx2 (z_ifn (by decide) ?_)
        rw [h1.2.2.2.1]
        refine z_ifn (fun e => by have := (nI_eq (b := 120) (by omega) (by decide)).mp e; omega) ⟨z_vin hl (by omega), ?_⟩
        rw [z_tn (by omega)]
        rintro _ rfl
        rw [zs_i_ne (show (73 : Nat) ≠ 80 by omega), h1.2.2.2.1, show nI len + (1 : Int32) = nI (len + 1) from nI_1 len]
        rintro _ rfl
        rw [zs_i_at]
        obtain ⟨m1, m2, m3, m4, m5⟩ := h1
        have hz : ∀ j, zm (zs_i (zs_i σ1 80 len (nI x)) 73 8 (nI (len + 1))) j = zm σ1 j := fun j => by
          rw [zm_73]
          funext y
          unfold zm
          rw [zs_i_ne (by omega)]
        refine hq _ ⟨by rw [zs_i_nej (by omega), zs_i_ne (by omega)]; exact m1, fun x hx => by rw [hz]; exact m2 x hx, fun j x hj hx => by rw [hz]; exact m3 j x hj hx, zs_i_at, fun j hj => ?_⟩ (z_cf_tr (z_cf_i (by omega) (by omega)) (z_cf_i (by omega) (by omega)))
        rw [zs_i_ne (by omega), zg_i_si]
        unfold z_fup
        by_cases e : j = len
        · rw [if_pos ⟨rfl, e⟩, if_pos e]
        · rw [if_neg (fun q => e q.2), if_neg e]
          exact m5 j hj
    · obtain rfl : len = 120 := by omega
      refine z_comb (wC := fun Q => w_X5_type (nI x) σ Q) (wM := fun σ1 Q => w_X6_type (nI x) σ1 Q) (r := -2000000004) hM hG (fun Q hq => ?_) (fun σ1 h1 Q hq => ?_) hK
      · unfold w_X5_type
        refine s_within_y (lo := 0) (hi := 255) (by decide) hx1 hx2 (z_ifn (by decide) ?_)
        rw [hC.2.2.2.1]
        exact z_ifn (by decide) (hq σ hC (z_mf_rfl σ))
      · unfold w_X6_type
        refine s_in_y (lo := 0) (hi := 255) (by decide) hx1 hx2 (z_ifn (by decide) ?_)
        rw [h1.2.2.2.1]
        exact z_ifp rfl (hq σ1 h1 (z_cf_rfl σ1))
  · refine z_comb (wC := fun Q => w_X5_type a σ Q) (wM := fun σ1 Q => w_X6_type a σ1 Q) (r := -2000000002) hM hG (fun Q hq => ?_) (fun σ1 h1 Q hq => ?_) hK
    · unfold w_X5_type
      exact s_within_n (lo := 0) (hi := 255) (by omega) (by omega) hn2 (z_ifp rfl (hq σ hC (z_mf_rfl σ)))
    · unfold w_X6_type
      exact s_in_n (lo := 0) (hi := 255) (by omega) (by omega) hn2 (z_ifp rfl (hq σ1 h1 (z_cf_rfl σ1)))
theorem op_undo {σ : z_S} {K : Int32 → Int32 → z_S → Prop} (h : z_Inv σ) (hK : ∀ r σ2, z_Inv σ2 → K r r σ2) : w_X5_undo σ (fun r σ1 => w_X6_undo σ1 (fun r2 σ2 => K r r2 σ2)) := by
  obtain ⟨f, c, sv, F, len, tx, hC, hM, hG⟩ := h
  cases sv with
  | zero =>
    refine z_comb (wC := fun Q => w_X5_undo σ Q) (wM := fun σ1 Q => w_X6_undo σ1 Q) (r := -2000000003) hM hG (fun Q hq => ?_) (fun σ1 h1 Q hq => ?_) hK
    · obtain ⟨a, ha⟩ := hC.1
      unfold w_X5_undo
      rw [ha.2.2.2.1]
      exact z_ifp rfl (hq σ hC (z_mf_rfl σ))
    · unfold w_X6_undo
      rw [h1.1]
      exact z_ifp rfl (hq σ1 h1 (z_cf_rfl σ1))
  | succ s =>
    obtain ⟨d, hd⟩ := hG.2.2.1 s (by omega)
    have hs5 := hG.2.1
    refine z_comb (wC := fun Q => w_X5_undo σ Q) (wM := fun σ1 Q => w_X6_undo σ1 Q) (r := nI s) (f' := F s) (sv' := s) (F' := F) (len' := len) (tx' := tx) hM ⟨hd, by omega, fun j hj => hG.2.2.1 j (by omega), hG.2.2.2⟩ (fun Q hq => ?_) (fun σ1 h1 Q hq => ?_) hK
    · obtain ⟨⟨a, ha⟩, h2, h3, h4, h5⟩ := hC
      unfold w_X5_undo
      rw [ha.2.2.2.1]
      refine z_ifn (fun e => nI_ne0 (show 0 < s + 1 by omega) (by omega) e) (s_pop ha (fun τ q1 q2 q3 q4 q5 q6 q7 => ?_))
      rw [q3.2.2.2.1]
      exact hq τ ⟨⟨a, q3⟩, fun x hx => by rw [q1 x hx]; exact h3 s x (by omega) hx, fun j x hj hx => by rw [q2 j x hx hj]; exact h3 j x (by omega) hx, by rw [q4 68 (by omega)]; exact h4, fun j hj => by rw [q4 69 (by omega)]; exact h5 j hj⟩ ⟨q4 73 (by omega), q4 74 (by omega), q4 80 (by omega)⟩
    · unfold w_X6_undo
      obtain ⟨m1, m2, m3, m4, m5⟩ := h1
      rw [m1]
      refine z_ifn (fun e => nI_ne0 (show 0 < s + 1 by omega) (by omega) e) (s_copies (a := s + 1) (b := 0) (by omega) (by omega) ?_)
      rintro _ rfl
      rw [zs_i_at, zs_cp_ne (by omega), m1, show nI (s + 1) - (1 : Int32) = nI s from nI_pred s]
      refine hq _ ⟨zs_i_at, fun x hx => ?_, fun j x hj hx => ?_, ?_, fun j hj => ?_⟩ (z_cf_tr ⟨fun p hp => zs_cp_ne (by omega), rfl, rfl⟩ (z_cf_i (by omega) (by omega)))
      · rw [zm_73, zm_cp hx, if_pos rfl]
        exact m3 s x (by omega) hx
      · rw [zm_73, zm_cp hx, if_neg (by omega)]
        exact m3 j x (by omega) hx
      · rw [zs_i_nej (by omega), zs_cp_ne (by omega)]
        exact m4
      · rw [zs_i_ne (by omega), zs_cp_ne (by omega)]
        exact m5 j hj
