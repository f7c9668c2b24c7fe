/-! the calls, one by one: the small ones -/
theorem s_has_y {σ : z_S} {Q : Int32 → z_S → Prop} {m c : Nat} (hc : zg_i σ 1 0 = nI c) (h10 : c ≤ 10) (hm : m < c) (q : Q 1 σ) : w_X4_has (nI m) σ Q := s_has hc h10 (fun _ _ _ => q) (fun h => absurd rfl (h m hm))
theorem s_has_n {σ : z_S} {Q : Int32 → z_S → Prop} {x : Int32} {c : Nat} (hc : zg_i σ 1 0 = nI c) (h10 : c ≤ 10) (hm : ∀ m, m < c → x ≠ nI m) (q : Q 0 σ) : w_X4_has x σ Q := s_has hc h10 (fun m h e => absurd e (hm m h)) (fun _ => q)
theorem s_isMeter_y {σ : z_S} {Q : Int32 → z_S → Prop} {f : Nat → Int32} {m c : Nat} (h : ∀ x, x < 264 → zm σ 0 x = f x) (hc : f 0 = nI c) (h10 : c ≤ 10) (hm : m < c) (q : Q 1 σ) : w_X6_isMeter (nI m) σ Q := s_isMeter h hc h10 (fun _ _ _ => q) (fun h => absurd rfl (h m hm))
theorem s_isMeter_n {σ : z_S} {Q : Int32 → z_S → Prop} {f : Nat → Int32} {x : Int32} {c : Nat} (h : ∀ x, x < 264 → zm σ 0 x = f x) (hc : f 0 = nI c) (h10 : c ≤ 10) (hm : ∀ m, m < c → x ≠ nI m) (q : Q 0 σ) : w_X6_isMeter x σ Q := s_isMeter h hc h10 (fun m h e => absurd e (hm m h)) (fun _ => q)
theorem s_within_y {σ : z_S} {Q : Int32 → z_S → Prop} {i lo hi : Nat} (hh : hi < 2 ^ 31) (h1 : lo ≤ i) (h2 : i ≤ hi) (q : Q 1 σ) : w_X5_within (nI i) (nI lo) (nI hi) σ Q := s_within (by omega) hh (fun _ _ _ _ => q) (fun h => absurd rfl (h i h1 h2))
theorem s_within_n {σ : z_S} {Q : Int32 → z_S → Prop} {x : Int32} {lo hi : Nat} (hl : lo < 2 ^ 31) (hh : hi < 2 ^ 31) (h1 : ∀ i, lo ≤ i → i ≤ hi → x ≠ nI i) (q : Q 0 σ) : w_X5_within x (nI lo) (nI hi) σ Q := s_within hl hh (fun i g1 g2 e => absurd e (h1 i g1 g2)) (fun _ => q)
theorem s_in_y {σ : z_S} {Q : Int32 → z_S → Prop} {i lo hi : Nat} (hh : hi < 2 ^ 31) (h1 : lo ≤ i) (h2 : i ≤ hi) (q : Q 1 σ) : w_X6_in (nI i) (nI lo) (nI hi) σ Q := s_in (by omega) hh (fun _ _ _ _ => q) (fun h => absurd rfl (h i h1 h2))
theorem s_in_n {σ : z_S} {Q : Int32 → z_S → Prop} {x : Int32} {lo hi : Nat} (hl : lo < 2 ^ 31) (hh : hi < 2 ^ 31) (h1 : ∀ i, lo ≤ i → i ≤ hi → x ≠ nI i) (q : Q 0 σ) : w_X6_in x (nI lo) (nI hi) σ Q := s_in hl hh (fun i g1 g2 e => absurd e (h1 i g1 g2)) (fun _ => q)
theorem s_isInterval_y {σ : z_S} {Q : Int32 → z_S → Prop} {i : Nat} (h : i < 12) (q : Q 1 σ) : w_X5_isInterval (nI i) σ Q := by
  unfold w_X5_isInterval
  exact s_within_y (lo := 0) (hi := 11) (by omega) (by omega) (by omega) ⟨Or.inr rfl, q⟩
theorem s_isInterval_n {σ : z_S} {Q : Int32 → z_S → Prop} {x : Int32} (h : ∀ i, i < 12 → x ≠ nI i) (q : Q 0 σ) : w_X5_isInterval x σ Q := by
  unfold w_X5_isInterval
  exact s_within_n (lo := 0) (hi := 11) (by omega) (by omega) (fun i _ g => h i (by omega)) ⟨Or.inl rfl, q⟩
theorem s_isBoundary_y {σ : z_S} {Q : Int32 → z_S → Prop} {i : Nat} (h : i < 13) (q : Q 1 σ) : w_X5_isBoundary (nI i) σ Q := by
  unfold w_X5_isBoundary
  exact s_within_y (lo := 0) (hi := 12) (by omega) (by omega) (by omega) ⟨Or.inr rfl, q⟩
theorem s_isBoundary_n {σ : z_S} {Q : Int32 → z_S → Prop} {x : Int32} (h : ∀ i, i < 13 → x ≠ nI i) (q : Q 0 σ) : w_X5_isBoundary x σ Q := by
  unfold w_X5_isBoundary
  exact s_within_n (lo := 0) (hi := 12) (by omega) (by omega) (fun i _ g => h i (by omega)) ⟨Or.inl rfl, q⟩
theorem sm_isBoundary_y {σ : z_S} {Q : Int32 → z_S → Prop} {f : Nat → Int32} {m b c : Nat} (h : ∀ x, x < 264 → zm σ 0 x = f x) (hc : f 0 = nI c) (h10 : c ≤ 10) (hm : m < c) (hb : b < 13) (q : Q 1 σ) : w_X6_isBoundary (nI m) (nI b) σ Q := by
  unfold w_X6_isBoundary
  exact s_isMeter_y h hc h10 hm (z_ifn (by decide) (s_in_y (lo := 0) (hi := 12) (by omega) (by omega) (by omega) (z_ifn (by decide) ⟨Or.inr rfl, q⟩)))
theorem sm_isBoundary_n1 {σ : z_S} {Q : Int32 → z_S → Prop} {f : Nat → Int32} {x b : Int32} {c : Nat} (h : ∀ x, x < 264 → zm σ 0 x = f x) (hc : f 0 = nI c) (h10 : c ≤ 10) (hm : ∀ m, m < c → x ≠ nI m) (q : Q 0 σ) : w_X6_isBoundary x b σ Q := by
  unfold w_X6_isBoundary
  exact s_isMeter_n h hc h10 hm (z_ifp rfl ⟨Or.inl rfl, q⟩)
theorem sm_isBoundary_n2 {σ : z_S} {Q : Int32 → z_S → Prop} {f : Nat → Int32} {b : Int32} {m c : Nat} (h : ∀ x, x < 264 → zm σ 0 x = f x) (hc : f 0 = nI c) (h10 : c ≤ 10) (hm : m < c) (hb : ∀ i, i < 13 → b ≠ nI i) (q : Q 0 σ) : w_X6_isBoundary (nI m) b σ Q := by
  unfold w_X6_isBoundary
  exact s_isMeter_y h hc h10 hm (z_ifn (by decide) (s_in_n (lo := 0) (hi := 12) (by omega) (by omega) (fun i _ g => hb i (by omega)) (z_ifp rfl ⟨Or.inl rfl, q⟩)))
theorem sm_isInterval_y {σ : z_S} {Q : Int32 → z_S → Prop} {f : Nat → Int32} {m b c : Nat} (h : ∀ x, x < 264 → zm σ 0 x = f x) (hc : f 0 = nI c) (h10 : c ≤ 10) (hm : m < c) (hb : b < 12) (q : Q 1 σ) : w_X6_isInterval (nI m) (nI b) σ Q := by
  unfold w_X6_isInterval
  exact s_isMeter_y h hc h10 hm (z_ifn (by decide) (s_in_y (lo := 0) (hi := 11) (by omega) (by omega) (by omega) (z_ifn (by decide) ⟨Or.inr rfl, q⟩)))
theorem sm_isInterval_n1 {σ : z_S} {Q : Int32 → z_S → Prop} {f : Nat → Int32} {x b : Int32} {c : Nat} (h : ∀ x, x < 264 → zm σ 0 x = f x) (hc : f 0 = nI c) (h10 : c ≤ 10) (hm : ∀ m, m < c → x ≠ nI m) (q : Q 0 σ) : w_X6_isInterval x b σ Q := by
  unfold w_X6_isInterval
  exact s_isMeter_n h hc h10 hm (z_ifp rfl ⟨Or.inl rfl, q⟩)
theorem sm_isInterval_n2 {σ : z_S} {Q : Int32 → z_S → Prop} {f : Nat → Int32} {b : Int32} {m c : Nat} (h : ∀ x, x < 264 → zm σ 0 x = f x) (hc : f 0 = nI c) (h10 : c ≤ 10) (hm : m < c) (hb : ∀ i, i < 12 → b ≠ nI i) (q : Q 0 σ) : w_X6_isInterval (nI m) b σ Q := by
  unfold w_X6_isInterval
  exact s_isMeter_y h hc h10 hm (z_ifn (by decide) (s_in_n (lo := 0) (hi := 11) (by omega) (by omega) (fun i _ g => hb i (by omega)) (z_ifp rfl ⟨Or.inl rfl, q⟩)))
theorem s_ofr {σ : z_S} {Q : Int32 → z_S → Prop} {f : Nat → Int32} {m b : Nat} (h : ∀ x, x < 264 → zm σ 0 x = f x) (hm : m < 10) (hb : b < 13) (hq : Q (f (9 + 18 * m + b)) σ) : w_X6_of (nI m) ((5 : Int32) + nI b) σ Q := by
  rw [show (5 : Int32) + nI b = nI (5 + b) by rw [show (5 : Int32) = nI 5 from rfl, nI_add]]
  exact s_of h hm (by omega) (by rw [show 4 + 18 * m + (5 + b) = 9 + 18 * m + b by omega]; exact hq)
theorem z_cas (x : Int32) (n : Nat) : (∃ m, m < n ∧ x = nI m) ∨ ∀ m, m < n → x ≠ nI m := by
  by_cases h : ∃ m, m < n ∧ x = nI m
  · exact Or.inl h
  · exact Or.inr (fun m hm e => h ⟨m, hm, e⟩)
theorem z_cas2 (x : Int32) (lo hi : Nat) : (∃ m, lo ≤ m ∧ m ≤ hi ∧ x = nI m) ∨ ∀ m, lo ≤ m → m ≤ hi → x ≠ nI m := by
  by_cases h : ∃ m, lo ≤ m ∧ m ≤ hi ∧ x = nI m
  · exact Or.inl h
  · exact Or.inr (fun m h1 h2 e => h ⟨m, h1, h2, e⟩)
theorem op_meters {σ : z_S} {K : Int32 → Int32 → z_S → Prop} (h : z_Inv σ) (hK : ∀ r σ2, z_Inv σ2 → K r r σ2) : w_X5_meters σ (fun r σ1 => w_X6_meters σ1 (fun r2 σ2 => K r r2 σ2)) := by
  obtain ⟨f, c, sv, F, len, tx, hC, hM, hG⟩ := h
  refine z_comb (wC := fun Q => w_X5_meters σ Q) (wM := fun σ1 Q => w_X6_meters σ1 Q) (r := f 0) hM hG (fun Q hq => ?_) (fun σ1 h1 Q hq => ?_) hK
  · show Q (zg_i σ 1 0) σ
    rw [ic_0 hC.2.1 (by omega)]
    exact hq σ hC (z_mf_rfl σ)
  · refine ⟨z_vin (i := 0) (by omega) (by omega), ?_⟩
    rw [show (0 : Int32).toNatClampNeg = 0 from rfl, im_at h1.2.1 (by omega)]
    exact hq σ1 h1 (z_cf_rfl σ1)
theorem op_revisions {σ : z_S} {K : Int32 → Int32 → z_S → Prop} (h : z_Inv σ) (hK : ∀ r σ2, z_Inv σ2 → K r r σ2) : w_X5_revisions σ (fun r σ1 => w_X6_revisions σ1 (fun r2 σ2 => K r r2 σ2)) := by
  obtain ⟨f, c, sv, F, len, tx, hC, hM, hG⟩ := h
  refine z_comb (wC := fun Q => w_X5_revisions σ Q) (wM := fun σ1 Q => w_X6_revisions σ1 Q) (r := f 3) hM hG (fun Q hq => ?_) (fun σ1 h1 Q hq => ?_) hK
  · show Q (zg_i σ 1 3) σ
    rw [ic_0 hC.2.1 (by omega)]
    exact hq σ hC (z_mf_rfl σ)
  · refine ⟨z_vin (i := 3) (by omega) (by omega), ?_⟩
    rw [show (3 : Int32).toNatClampNeg = 3 from rfl, im_at h1.2.1 (by omega)]
    exact hq σ1 h1 (z_cf_rfl σ1)
theorem op_reading {σ : z_S} {K : Int32 → Int32 → z_S → Prop} (a b : Int32) (h : z_Inv σ) (hK : ∀ r σ2, z_Inv σ2 → K r r σ2) : w_X5_reading a b σ (fun r σ1 => w_X6_reading a b σ1 (fun r2 σ2 => K r r2 σ2)) := by
  obtain ⟨f, c, sv, F, len, tx, hC, hM, hG⟩ := h
  have h10 := hG.1.1
  have hc := hG.1.2.1
  have hcc : zg_i σ 1 0 = nI c := by rw [ic_0 hC.2.1 (by omega)]; exact hc
  rcases z_cas a c with ⟨m, hm, rfl⟩ | hn
  · rcases z_cas b 13 with ⟨i, hi, rfl⟩ | hn2
    · refine z_comb (wC := fun Q => w_X5_reading (nI m) (nI i) σ Q) (wM := fun σ1 Q => w_X6_reading (nI m) (nI i) σ1 Q) (r := f (9 + 18 * m + i)) hM hG (fun Q hq => ?_) (fun σ1 h1 Q hq => ?_) hK
      · unfold w_X5_reading
        refine s_has_y hcc h10 hm (z_ifn (by decide) (s_isBoundary_y hi (z_ifn (by decide) ⟨z_vin (by omega) (by omega), z_vin hi (by omega), ?_⟩)))
        rw [z_tn (by omega), z_tn (by omega), ic_read hC.2.1 hi (by omega)]
        exact hq σ hC (z_mf_rfl σ)
      · unfold w_X6_reading
        exact sm_isBoundary_y h1.2.1 hc h10 hm hi (z_ifn (by decide) (s_ofr h1.2.1 (by omega) hi (hq σ1 h1 (z_cf_rfl σ1))))
    · refine z_comb (wC := fun Q => w_X5_reading (nI m) b σ Q) (wM := fun σ1 Q => w_X6_reading (nI m) b σ1 Q) (r := -2000000001) hM hG (fun Q hq => ?_) (fun σ1 h1 Q hq => ?_) hK
      · unfold w_X5_reading
        exact s_has_y hcc h10 hm (z_ifn (by decide) (s_isBoundary_n hn2 (z_ifp rfl (hq σ hC (z_mf_rfl σ)))))
      · unfold w_X6_reading
        exact sm_isBoundary_n2 h1.2.1 hc h10 hm hn2 (z_ifp rfl (hq σ1 h1 (z_cf_rfl σ1)))
  · refine z_comb (wC := fun Q => w_X5_reading a b σ Q) (wM := fun σ1 Q => w_X6_reading a b σ1 Q) (r := -2000000001) hM hG (fun Q hq => ?_) (fun σ1 h1 Q hq => ?_) hK
    · unfold w_X5_reading
      exact s_has_n hcc h10 hn (z_ifp rfl (hq σ hC (z_mf_rfl σ)))
    · unfold w_X6_reading
      exact sm_isBoundary_n1 h1.2.1 hc h10 hn (z_ifp rfl (hq σ1 h1 (z_cf_rfl σ1)))
theorem op_clearRevisions {σ : z_S} {K : Int32 → Int32 → z_S → Prop} (h : z_Inv σ) (hK : ∀ r σ2, z_Inv σ2 → K r r σ2) : w_X5_clearRevisions σ (fun r σ1 => w_X6_clearRevisions σ1 (fun r2 σ2 => K r r2 σ2)) := by
  obtain ⟨f, c, sv, F, len, tx, hC, hM, hG⟩ := h
  have hf' : z_fine (z_fup f 3 (nI 0)) c := by
    obtain ⟨h1, h2, h3, h4, h5, h6, h7, h8⟩ := hG.1
    have ne : ∀ y, y ≠ 3 → z_fup f 3 (nI 0) y = f y := fun y hy => z_fup_ne f _ hy
    refine ⟨h1, by rw [ne _ (by omega)]; exact h2, by rw [ne _ (by omega)]; exact h3, by rw [ne _ (by omega)]; exact h4, ⟨0, by omega, z_fup_at _ _ _⟩, by rw [ne _ (by omega)]; exact h6, fun q g1 g2 => by rw [ne _ (by omega)]; exact h7 q g1 g2, fun q hq => ?_⟩
    obtain ⟨a1, a3, a4, d, d1, d2, d3, d4⟩ := h8 q hq
    exact ⟨by rw [ne _ (by omega)]; exact a1, by rw [ne _ (by omega)]; exact a3, by rw [ne _ (by omega)]; exact a4, d, d1, d2, by rw [ne _ (by omega)]; exact d3, fun b hb => by rw [ne _ (by omega)]; exact d4 b hb⟩
  refine z_comb (wC := fun Q => w_X5_clearRevisions σ Q) (wM := fun σ1 Q => w_X6_clearRevisions σ1 Q) (r := f 3) hM (z_GD_rec hG hf') (fun Q hq => ?_) (fun σ1 h1 Q hq => ?_) hK
  · unfold w_X5_clearRevisions
    refine push_IC hC (fun τ ht hmf => ?_)
    rintro _ rfl _ rfl
    rw [ic_0 ht.2.1 (by omega)]
    exact hq _ (ic_set0 (v := nI 0) ht (by omega)) (z_mf_tr hmf (z_mf_i (by omega)))
  · unfold w_X6_clearRevisions
    refine saves_IM hG.2.1 h1 (fun τ ht hcf => ⟨z_vin (i := 3) (by omega) (by omega), ?_⟩)
    rw [show (3 : Int32).toNatClampNeg = 3 from rfl, im_at ht.2.1 (by omega)]
    rintro _ rfl
    refine ⟨z_vin (i := 3) (by omega) (by omega), ?_⟩
    rintro _ rfl
    exact hq _ (im_set (v := nI 0) ht (by omega)) (z_cf_tr hcf (z_cf_i (by omega) (by omega)))
theorem op_setMeter {σ : z_S} {K : Int32 → Int32 → z_S → Prop} (a b d : Int32) (h : z_Inv σ) (hK : ∀ r σ2, z_Inv σ2 → K r r σ2) : w_X5_setMeter a b d σ (fun r σ1 => w_X6_setMeter a b d σ1 (fun r2 σ2 => K r r2 σ2)) := by
  obtain ⟨f, c, sv, F, len, tx, hC, hM, hG⟩ := h
  have h10 := hG.1.1
  have hc := hG.1.2.1
  have hcc : zg_i σ 1 0 = nI c := by rw [ic_0 hC.2.1 (by omega)]; exact hc
  rcases z_cas a c with ⟨m, hm, rfl⟩ | hn
  · rcases z_cas2 b 1 100 with ⟨x, hx1, hx2, rfl⟩ | hn2
    · rcases z_cas2 d 1 100 with ⟨y, hy1, hy2, rfl⟩ | hn3
      · have hf' := fine_set (fine_set (k := 1) (v := nI x) hG.1 (show m < 10 by omega) (Or.inl ⟨rfl, x, hx1, hx2, rfl⟩)) (k := 4) (v := nI y) (show m < 10 by omega) (Or.inr (Or.inr ⟨rfl, y, hy1, hy2, rfl⟩))
        refine z_comb (wC := fun Q => w_X5_setMeter (nI m) (nI x) (nI y) σ Q) (wM := fun σ1 Q => w_X6_setMeter (nI m) (nI x) (nI y) σ1 Q) (r := f (4 + 18 * m + 1)) hM (z_GD_rec hG hf') (fun Q hq => ?_) (fun σ1 h1 Q hq => ?_) hK
        · unfold w_X5_setMeter
          refine s_has_y hcc h10 hm (z_ifn (by decide) (s_within_y (lo := 1) (hi := 100) (by decide) hx1 hx2 (z_ifn (by decide) (s_within_y (lo := 1) (hi := 100) (by decide) hy1 hy2 (z_ifn (by decide) ?_)))))
          refine push_IC hC (fun τ ht hmf => ⟨z_vin (by omega) (by omega), ?_⟩)
          rw [z_tn (by omega), ic_col 1 ht.2.1 (by omega) (by omega)]
          rintro _ rfl
          refine ⟨z_vin (by omega) (by omega), ?_⟩
          rintro _ rfl
          refine ⟨z_vin (by omega) (by omega), ?_⟩
          rintro _ rfl
          exact hq _ (ic_setc 4 (ic_setc 1 ht (by omega) (by omega)) (by omega) (by omega)) (z_mf_tr hmf (z_mf_tr (z_mf_i (by omega)) (z_mf_i (by omega))))
        · unfold w_X6_setMeter
          refine s_isMeter_y h1.2.1 hc h10 hm (z_ifn (by decide) (s_in_y (lo := 1) (hi := 100) (by decide) hx1 hx2 (z_ifn (by decide) (s_in_y (lo := 1) (hi := 100) (by decide) hy1 hy2 (z_ifn (by decide) ?_)))))
          refine saves_IM hG.2.1 h1 (fun τ ht hcf => ?_)
          refine s_of (c := 1) ht.2.1 (by omega) (by omega) ?_
          exact s_sets (c := 1) ht (by omega) (by omega) (fun τ2 ht2 hcf2 => s_sets (c := 4) ht2 (by omega) (by omega) (fun τ3 ht3 hcf3 => hq _ ht3 (z_cf_tr hcf (z_cf_tr hcf2 hcf3))))
      · refine z_comb (wC := fun Q => w_X5_setMeter (nI m) (nI x) d σ Q) (wM := fun σ1 Q => w_X6_setMeter (nI m) (nI x) d σ1 Q) (r := -2000000002) hM hG (fun Q hq => ?_) (fun σ1 h1 Q hq => ?_) hK
        · unfold w_X5_setMeter
          exact s_has_y hcc h10 hm (z_ifn (by decide) (s_within_y (lo := 1) (hi := 100) (by decide) hx1 hx2 (z_ifn (by decide) (s_within_n (lo := 1) (hi := 100) (by omega) (by omega) hn3 (z_ifp rfl (hq σ hC (z_mf_rfl σ)))))))
        · unfold w_X6_setMeter
          exact s_isMeter_y h1.2.1 hc h10 hm (z_ifn (by decide) (s_in_y (lo := 1) (hi := 100) (by decide) hx1 hx2 (z_ifn (by decide) (s_in_n (lo := 1) (hi := 100) (by omega) (by omega) hn3 (z_ifp rfl (hq σ1 h1 (z_cf_rfl σ1)))))))
    · refine z_comb (wC := fun Q => w_X5_setMeter (nI m) b d σ Q) (wM := fun σ1 Q => w_X6_setMeter (nI m) b d σ1 Q) (r := -2000000002) hM hG (fun Q hq => ?_) (fun σ1 h1 Q hq => ?_) hK
      · unfold w_X5_setMeter
        exact s_has_y hcc h10 hm (z_ifn (by decide) (s_within_n (lo := 1) (hi := 100) (by omega) (by omega) hn2 (z_ifp rfl (hq σ hC (z_mf_rfl σ)))))
      · unfold w_X6_setMeter
        exact s_isMeter_y h1.2.1 hc h10 hm (z_ifn (by decide) (s_in_n (lo := 1) (hi := 100) (by omega) (by omega) hn2 (z_ifp rfl (hq σ1 h1 (z_cf_rfl σ1)))))
  · refine z_comb (wC := fun Q => w_X5_setMeter a b d σ Q) (wM := fun σ1 Q => w_X6_setMeter a b d σ1 Q) (r := -2000000001) hM hG (fun Q hq => ?_) (fun σ1 h1 Q hq => ?_) hK
    · unfold w_X5_setMeter
      exact s_has_n hcc h10 hn (z_ifp rfl (hq σ hC (z_mf_rfl σ)))
    · unfold w_X6_setMeter
      exact s_isMeter_n h1.2.1 hc h10 hn (z_ifp rfl (hq σ1 h1 (z_cf_rfl σ1)))
