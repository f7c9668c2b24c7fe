/-! setRegister, setReading, removeReading, setAll -/
theorem z_p10 {d : Nat} (h : d ≤ 6) : 10 ^ d ≤ 1000000 := (show ∀ d, d ≤ 6 → 10 ^ d ≤ 1000000 by decide) d h
theorem z_p10p (d : Nat) : 0 < 10 ^ d := Nat.pow_pos (by omega)
theorem s_span {f : Nat → Int32} {σ : z_S} {Q : Int32 → z_S → Prop} {m d : Nat} (h : ∀ x, x < 264 → zv σ 1 x = f x) (hm : m < 10) (hd : f (4 + 18 * m + 2) = nI d) (h3 : 3 ≤ d) (h6 : d ≤ 6) (hq : Q (nI (10 ^ d)) σ) : w_X4_span (nI m) σ Q := by
  unfold w_X4_span
  rw [z_tn (by omega), ic_col 2 h (by omega) hm, hd]
  refine ⟨z_vin hm (by omega), ?_⟩
  rcases (show d = 3 ∨ d = 4 ∨ d = 5 ∨ d = 6 by omega) with rfl | rfl | rfl | rfl
  · exact z_ifp rfl hq
  · exact z_ifn (by decide) (z_ifp rfl hq)
  · exact z_ifn (by decide) (z_ifn (by decide) (z_ifp rfl hq))
  · exact z_ifn (by decide) (z_ifn (by decide) (z_ifn (by decide) hq))
theorem l_whole {f : Nat → Int32} {σ : z_S} {Q : Int32 → z_S → Prop} {m d : Nat} (h : ∀ x, x < 264 → zm σ 0 x = f x) (hm : m < 10) (hd : f (4 + 18 * m + 2) = nI d) (h6 : d ≤ 6) (hq : Q (nI (10 ^ d)) σ) : ∀ (e i n : Nat), i + e = d → e < n → w_X6_whole_4 Q n (nI m) (nI (10 ^ i)) (nI i) σ := by
  intro e
  induction e with
  | zero =>
    intro i n hi hn
    obtain ⟨n, rfl⟩ : ∃ k, n = k + 1 := ⟨n - 1, by omega⟩
    obtain rfl : i = d := by omega
    show wb_X6_whole_4 Q (w_X6_whole_4 Q n) (nI m) (nI (10 ^ i)) (nI i) σ
    unfold wb_X6_whole_4
    refine s_of (c := 2) h hm (by omega) ?_
    rw [hd]
    exact z_ifp (nI_le (Nat.le_refl i) (by omega)) hq
  | succ e ih =>
    intro i n hi hn
    obtain ⟨n, rfl⟩ : ∃ k, n = k + 1 := ⟨n - 1, by omega⟩
    show wb_X6_whole_4 Q (w_X6_whole_4 Q n) (nI m) (nI (10 ^ i)) (nI i) σ
    unfold wb_X6_whole_4
    refine s_of (c := 2) h hm (by omega) ?_
    rw [hd]
    refine z_ifn (nI_ge (by omega) (by omega)) ?_
    rintro _ rfl _ rfl
    rw [show nI i + (1 : Int32) = nI (i + 1) from nI_1 i, show nI (10 ^ i) * (10 : Int32) = nI (10 ^ (i + 1)) by rw [show (10 : Int32) = nI 10 from rfl, nI_mul, Nat.pow_succ]]
    exact ih (i + 1) n (by omega) (by omega)
theorem s_whole {f : Nat → Int32} {σ : z_S} {Q : Int32 → z_S → Prop} {m d : Nat} (h : ∀ x, x < 264 → zm σ 0 x = f x) (hm : m < 10) (hd : f (4 + 18 * m + 2) = nI d) (h6 : d ≤ 6) (hq : Q (nI (10 ^ d)) σ) : w_X6_whole (nI m) σ Q := l_whole h hm hd h6 hq d 0 400 (by omega) (by omega)
theorem s_isReading_y {f : Nat → Int32} {σ : z_S} {Q : Int32 → z_S → Prop} {m d v : Nat} (h : ∀ x, x < 264 → zm σ 0 x = f x) (hm : m < 10) (hd : f (4 + 18 * m + 2) = nI d) (h6 : d ≤ 6) (hv : v < 10 ^ d) (hq : Q 1 σ) : w_X6_isReading (nI m) (nI v) σ Q := by
  unfold w_X6_isReading
  have := z_p10 h6
  exact s_whole h hm hd h6 (s_inn (by omega) (fun _ _ _ => ⟨Or.inr rfl, hq⟩) (fun q => absurd rfl (q v hv)))
theorem s_isReading_n {f : Nat → Int32} {σ : z_S} {Q : Int32 → z_S → Prop} {m d : Nat} {x : Int32} (h : ∀ x, x < 264 → zm σ 0 x = f x) (hm : m < 10) (hd : f (4 + 18 * m + 2) = nI d) (h6 : d ≤ 6) (hv : ∀ v, v < 10 ^ d → x ≠ nI v) (hq : Q 0 σ) : w_X6_isReading (nI m) x σ Q := by
  unfold w_X6_isReading
  have := z_p10 h6
  exact s_whole h hm hd h6 (s_inn (by omega) (fun v q e => absurd e (hv v q)) (fun _ => ⟨Or.inl rfl, hq⟩))
theorem s_withinn_y {σ : z_S} {Q : Int32 → z_S → Prop} {n v : Nat} (hn : n < 2 ^ 31) (hv : v < n) (q : Q 1 σ) : w_X5_within (nI v) 0 (nI n - 1) σ Q := by
  obtain ⟨n, rfl⟩ : ∃ k, n = k + 1 := ⟨n - 1, by omega⟩
  rw [nI_pred]
  exact s_within_y (lo := 0) (by omega) (by omega) (by omega) q
theorem s_withinn_n {σ : z_S} {Q : Int32 → z_S → Prop} {n : Nat} {x : Int32} (hn : n < 2 ^ 31) (h0 : 0 < n) (hv : ∀ v, v < n → x ≠ nI v) (q : Q 0 σ) : w_X5_within x 0 (nI n - 1) σ Q := by
  obtain ⟨n, rfl⟩ : ∃ k, n = k + 1 := ⟨n - 1, by omega⟩
  rw [nI_pred]
  exact s_within_n (lo := 0) (by omega) (by omega) (fun i _ g => hv i (by omega)) q
theorem fine_read {f : Nat → Int32} {c m b : Nat} {v : Int32} (h : z_fine f c) (hb : b < 13) (hm : m < c) (hv : v = zNONE ∨ ∃ d n, f (4 + 18 * m + 2) = nI d ∧ d ≤ 6 ∧ n < 10 ^ d ∧ v = nI n) : z_fine (z_fup f (9 + 18 * m + b) v) c := by
  obtain ⟨g1, g2, g3, g4, g5, g6, g7, g8⟩ := h
  have ne : ∀ y, y ≠ 9 + 18 * m + b → z_fup f (9 + 18 * m + b) v y = f y := fun y hy => z_fup_ne f v hy
  refine ⟨g1, by rw [ne _ (by omega)]; exact g2, by rw [ne _ (by omega)]; exact g3, by rw [ne _ (by omega)]; exact g4, by rw [ne _ (by omega)]; exact g5, by rw [ne _ (by omega)]; exact g6, fun q q1 q2 => by rw [ne _ (by omega)]; exact g7 q q1 q2, fun q hq => ?_⟩
  obtain ⟨a1, a3, a4, d, d1, d2, d3, d4⟩ := g8 q hq
  refine ⟨by rw [ne _ (by omega)]; exact a1, by rw [ne _ (by omega)]; exact a3, by rw [ne _ (by omega)]; exact a4, d, d1, d2, by rw [ne _ (by omega)]; exact d3, fun b' hb' => ?_⟩
  by_cases e : 9 + 18 * q + b' = 9 + 18 * m + b
  · have eq : q = m := by omega
    subst eq
    rw [e, z_fup_at]
    rcases hv with hv | ⟨d', n, hd', h6, hn, rfl⟩
    · exact Or.inl hv
    · have : d = d' := by
        rw [d3] at hd'
        exact (nI_eq (by omega) (by omega)).mp hd'
      subst this
      exact Or.inr ⟨n, hn, rfl⟩
  · rw [ne _ e]
    exact d4 b' hb'
theorem s_becomes {f : Nat → Int32} {sv : Nat} {F : Nat → Nat → Int32} {len : Nat} {tx : Nat → Int32} {σ : z_S} {Q : Int32 → z_S → Prop} {m b : Nat} {v : Int32} (h : z_IM f sv F len tx σ) (hm : m < 10) (hb : b < 13) (hq : ∀ τ, z_IM (z_fup f (9 + 18 * m + b) v) sv F len tx τ → z_cf9 σ τ → Q (f (9 + 18 * m + b)) τ) : w_X6_becomes (nI m) (nI b) v σ Q := by
  unfold w_X6_becomes
  refine s_ofr h.2.1 hm hb ?_
  rw [show (5 : Int32) + nI b = nI (5 + b) by rw [show (5 : Int32) = nI 5 from rfl, nI_add]]
  refine s_sets h hm (by omega) (fun τ ht hcf => ?_)
  rw [show 4 + 18 * m + (5 + b) = 9 + 18 * m + b by omega] at ht
  exact hq τ ht hcf
theorem op_setReading {σ : z_S} {K : Int32 → Int32 → z_S → Prop} (a b v : Int32) (h : z_Inv σ) (hK : ∀ r σ2, z_Inv σ2 → K r r σ2) : w_X5_setReading a b v σ (fun r σ1 => w_X6_setReading a b v σ1 (fun r2 σ2 => K r r2 σ2)) := by
  obtain ⟨f, c, sv, F, len, tx, hC, hM, hG⟩ := h
  have h10 := hG.1.1
  have hc := hG.1.2.1
  have hcc : zg_i σ 1 0 = nI c := by rw [ic_0 hC.2.1 (by omega)]; exact hc
  rcases z_cas a c with ⟨m, hm, rfl⟩ | hn
  · rcases z_cas b 13 with ⟨i, hi, rfl⟩ | hn2
    · obtain ⟨-, -, -, d, hd3, hd6, hd, -⟩ := hG.1.2.2.2.2.2.2.2 m hm
      have hp := z_p10 hd6
      rcases z_cas v (10 ^ d) with ⟨n, hnn, rfl⟩ | hn3
      · refine z_comb (wC := fun Q => w_X5_setReading (nI m) (nI i) (nI n) σ Q) (wM := fun σ1 Q => w_X6_setReading (nI m) (nI i) (nI n) σ1 Q) (r := f (9 + 18 * m + i)) hM (z_GD_rec hG (fine_read (v := nI n) hG.1 hi hm (Or.inr ⟨d, n, hd, hd6, hnn, rfl⟩))) (fun Q hq => ?_) (fun σ1 h1 Q hq => ?_) hK
        · unfold w_X5_setReading
          refine s_has_y hcc h10 hm (z_ifn (by decide) (s_isBoundary_y hi (z_ifn (by decide) (s_span hC.2.1 (by omega) hd hd3 hd6 (s_withinn_y (by omega) hnn (z_ifn (by decide) ?_))))))
          refine push_IC hC (fun τ ht hmf => ⟨z_vin (by omega) (by omega), z_vin hi (by omega), ?_⟩)
          rw [z_tn (by omega), z_tn (by omega), ic_read ht.2.1 hi (by omega)]
          rintro _ rfl
          refine ⟨z_vin (by omega) (by omega), z_vin hi (by omega), ?_⟩
          rintro _ rfl
          exact hq _ (ic_setr ht hi (by omega)) (z_mf_tr hmf (z_mf_i (by omega)))
        · unfold w_X6_setReading
          exact sm_isBoundary_y h1.2.1 hc h10 hm hi (z_ifn (by decide) (s_isReading_y h1.2.1 (by omega) hd hd6 hnn (z_ifn (by decide) (saves_IM hG.2.1 h1 (fun τ ht hcf => s_becomes ht (by omega) hi (fun ρ hr hcf2 => hq ρ hr (z_cf_tr hcf hcf2)))))))
      · refine z_comb (wC := fun Q => w_X5_setReading (nI m) (nI i) v σ Q) (wM := fun σ1 Q => w_X6_setReading (nI m) (nI i) v σ1 Q) (r := -2000000002) hM hG (fun Q hq => ?_) (fun σ1 h1 Q hq => ?_) hK
        · unfold w_X5_setReading
          exact s_has_y hcc h10 hm (z_ifn (by decide) (s_isBoundary_y hi (z_ifn (by decide) (s_span hC.2.1 (by omega) hd hd3 hd6 (s_withinn_n (by omega) (z_p10p d) hn3 (z_ifp rfl (hq σ hC (z_mf_rfl σ))))))))
        · unfold w_X6_setReading
          exact sm_isBoundary_y h1.2.1 hc h10 hm hi (z_ifn (by decide) (s_isReading_n h1.2.1 (by omega) hd hd6 hn3 (z_ifp rfl (hq σ1 h1 (z_cf_rfl σ1)))))
    · refine z_comb (wC := fun Q => w_X5_setReading (nI m) b v σ Q) (wM := fun σ1 Q => w_X6_setReading (nI m) b v σ1 Q) (r := -2000000001) hM hG (fun Q hq => ?_) (fun σ1 h1 Q hq => ?_) hK
      · unfold w_X5_setReading
        exact s_has_y hcc h10 hm (z_ifn (by decide) (s_isBoundary_n hn2 (z_ifp rfl (hq σ hC (z_mf_rfl σ)))))
      · unfold w_X6_setReading
        exact sm_isBoundary_n2 h1.2.1 hc h10 hm hn2 (z_ifp rfl (hq σ1 h1 (z_cf_rfl σ1)))
  · refine z_comb (wC := fun Q => w_X5_setReading a b v σ Q) (wM := fun σ1 Q => w_X6_setReading a b v σ1 Q) (r := -2000000001) hM hG (fun Q hq => ?_) (fun σ1 h1 Q hq => ?_) hK
    · unfold w_X5_setReading
      exact s_has_n hcc h10 hn (z_ifp rfl (hq σ hC (z_mf_rfl σ)))
    · unfold w_X6_setReading
      exact sm_isBoundary_n1 h1.2.1 hc h10 hn (z_ifp rfl (hq σ1 h1 (z_cf_rfl σ1)))
theorem op_removeReading {σ : z_S} {K : Int32 → Int32 → z_S → Prop} (a b : Int32) (h : z_Inv σ) (hK : ∀ r σ2, z_Inv σ2 → K r r σ2) : w_X5_removeReading a b σ (fun r σ1 => w_X6_removeReading a b σ1 (fun r2 σ2 => K r r2 σ2)) := by
  obtain ⟨f, c, sv, F, len, tx, hC, hM, hG⟩ := h
  have h10 := hG.1.1
  have hc := hG.1.2.1
  have hcc : zg_i σ 1 0 = nI c := by rw [ic_0 hC.2.1 (by omega)]; exact hc
  rcases z_cas a c with ⟨m, hm, rfl⟩ | hn
  · rcases z_cas b 13 with ⟨i, hi, rfl⟩ | hn2
    · refine z_comb (wC := fun Q => w_X5_removeReading (nI m) (nI i) σ Q) (wM := fun σ1 Q => w_X6_removeReading (nI m) (nI i) σ1 Q) (r := f (9 + 18 * m + i)) hM (z_GD_rec hG (fine_read (v := zNONE) hG.1 hi hm (Or.inl rfl))) (fun Q hq => ?_) (fun σ1 h1 Q hq => ?_) hK
      · unfold w_X5_removeReading
        refine s_has_y hcc h10 hm (z_ifn (by decide) (s_isBoundary_y hi (z_ifn (by decide) ?_)))
        refine push_IC hC (fun τ ht hmf => ⟨z_vin (by omega) (by omega), z_vin hi (by omega), ?_⟩)
        rw [z_tn (by omega), z_tn (by omega), ic_read ht.2.1 hi (by omega)]
        rintro _ rfl
        refine ⟨z_vin (by omega) (by omega), z_vin hi (by omega), ?_⟩
        rintro _ rfl
        exact hq _ (ic_setr ht hi (by omega)) (z_mf_tr hmf (z_mf_i (by omega)))
      · unfold w_X6_removeReading
        exact sm_isBoundary_y h1.2.1 hc h10 hm hi (z_ifn (by decide) (saves_IM hG.2.1 h1 (fun τ ht hcf => s_becomes ht (by omega) hi (fun ρ hr hcf2 => hq ρ hr (z_cf_tr hcf hcf2)))))
    · refine z_comb (wC := fun Q => w_X5_removeReading (nI m) b σ Q) (wM := fun σ1 Q => w_X6_removeReading (nI m) b σ1 Q) (r := -2000000001) hM hG (fun Q hq => ?_) (fun σ1 h1 Q hq => ?_) hK
      · unfold w_X5_removeReading
        exact s_has_y hcc h10 hm (z_ifn (by decide) (s_isBoundary_n hn2 (z_ifp rfl (hq σ hC (z_mf_rfl σ)))))
      · unfold w_X6_removeReading
        exact sm_isBoundary_n2 h1.2.1 hc h10 hm hn2 (z_ifp rfl (hq σ1 h1 (z_cf_rfl σ1)))
  · refine z_comb (wC := fun Q => w_X5_removeReading a b σ Q) (wM := fun σ1 Q => w_X6_removeReading a b σ1 Q) (r := -2000000001) hM hG (fun Q hq => ?_) (fun σ1 h1 Q hq => ?_) hK
    · unfold w_X5_removeReading
      exact s_has_n hcc h10 hn (z_ifp rfl (hq σ hC (z_mf_rfl σ)))
    · unfold w_X6_removeReading
      exact sm_isBoundary_n1 h1.2.1 hc h10 hn (z_ifp rfl (hq σ1 h1 (z_cf_rfl σ1)))
/-- the numbers behind setRegister -/
def z_freg (f : Nat → Int32) (m : Nat) (dg lm : Int32) : Nat → Int32 := z_fup (z_fup f (4 + 18 * m + 2) dg) (4 + 18 * m + 3) lm
theorem z_freg_ne (f : Nat → Int32) {m x : Nat} (dg lm : Int32) (h : x ≠ 4 + 18 * m + 2) (h2 : x ≠ 4 + 18 * m + 3) : z_freg f m dg lm x = f x := by
  unfold z_freg
  rw [z_fup_ne _ _ h2, z_fup_ne _ _ h]
theorem fine_reg {f : Nat → Int32} {c m x y : Nat} (h : z_fine f c) (hm : m < c) (hx : 3 ≤ x) (hx6 : x ≤ 6) (hy : 1 ≤ y) (hy2 : y ≤ 50000) (n : Nat) (hn : n = 13 ∨ n = 0 ∧ f (4 + 18 * m + 2) = nI x) : z_fine (z_frd (z_freg f m (nI x) (nI y)) m n) c := by
  obtain ⟨g1, g2, g3, g4, g5, g6, g7, g8⟩ := h
  have ne : ∀ z, z ≠ 4 + 18 * m + 2 → z ≠ 4 + 18 * m + 3 → (z < 9 + 18 * m ∨ 9 + 18 * m + n ≤ z) → z_frd (z_freg f m (nI x) (nI y)) m n z = f z := fun z h1 h2 h3 => by rw [z_frd_ne _ h3, z_freg_ne _ _ _ h1 h2]
  refine ⟨g1, by rw [ne _ (by omega) (by omega) (by omega)]; exact g2, by rw [ne _ (by omega) (by omega) (by omega)]; exact g3, by rw [ne _ (by omega) (by omega) (by omega)]; exact g4, by rw [ne _ (by omega) (by omega) (by omega)]; exact g5, by rw [ne _ (by omega) (by omega) (by omega)]; exact g6, fun q q1 q2 => by rw [ne _ (by omega) (by omega) (by omega)]; exact g7 q q1 q2, fun q hq => ?_⟩
  obtain ⟨a1, a3, a4, d, d1, d2, d3, d4⟩ := g8 q hq
  by_cases e : q = m
  · subst e
    refine ⟨by rw [ne _ (by omega) (by omega) (by omega)]; exact a1, ⟨y, hy, hy2, ?_⟩, by rw [ne _ (by omega) (by omega) (by omega)]; exact a4, x, hx, hx6, ?_, fun b hb => ?_⟩
    · rw [z_frd_ne _ (by omega)]
      exact z_fup_at _ _ _
    · rw [z_frd_ne _ (by omega)]
      unfold z_freg
      rw [z_fup_ne _ _ (by omega)]
      exact z_fup_at _ _ _
    · rcases hn with rfl | ⟨rfl, he⟩
      · exact Or.inl (z_frd_in _ hb)
      · rw [ne _ (by omega) (by omega) (by omega)]
        have : d = x := by
          rw [d3] at he
          exact (nI_eq (by omega) (by omega)).mp he
        subst this
        exact d4 b hb
  · exact ⟨by rw [ne _ (by omega) (by omega) (by omega)]; exact a1, by rw [ne _ (by omega) (by omega) (by omega)]; exact a3, by rw [ne _ (by omega) (by omega) (by omega)]; exact a4, d, d1, d2, by rw [ne _ (by omega) (by omega) (by omega)]; exact d3, fun b hb => by rw [ne _ (by omega) (by omega) (by omega)]; exact d4 b hb⟩
theorem z_freg_frd (f : Nat → Int32) (m : Nat) (a b : Int32) (z : Nat) : z_freg (z_frd f m 13) m a b z = z_frd (z_freg f m a b) m 13 z := by
  unfold z_freg z_frd z_fup
  dsimp only
  by_cases e1 : z = 4 + 18 * m + 3
  · rw [if_pos e1, if_neg (by omega), if_pos e1]
  · rw [if_neg e1]
    by_cases e2 : z = 4 + 18 * m + 2
    · rw [if_pos e2, if_neg (by omega), if_neg e1, if_pos e2]
    · rw [if_neg e2]
      by_cases e3 : 9 + 18 * m ≤ z ∧ z < 9 + 18 * m + 13
      · rw [if_pos e3, if_pos e3]
      · rw [if_neg e3, if_neg e3, if_neg e1, if_neg e2]
theorem s_reg73 {f : Nat → Int32} {sv : Nat} {F : Nat → Nat → Int32} {len : Nat} {tx : Nat → Int32} {σ : z_S} {Q : Int32 → z_S → Prop} {m : Nat} {a b r : Int32} (h : z_IC f sv F len tx σ) (hm : m < 10) (hq : ∀ τ, z_IC (z_freg f m a b) sv F len tx τ → z_mf σ τ → Q r τ) : w_X5_setRegister_73 Q (nI m) a b r σ := by
  unfold w_X5_setRegister_73
  rw [z_tn (by omega)]
  refine ⟨z_vin hm (by omega), ?_⟩
  rintro _ rfl
  refine ⟨z_vin hm (by omega), ?_⟩
  rintro _ rfl
  exact hq _ (ic_setc 3 (ic_setc 2 h (by omega) hm) (by omega) hm) (z_mf_tr (z_mf_i (by omega)) (z_mf_i (by omega)))
theorem op_setRegister {σ : z_S} {K : Int32 → Int32 → z_S → Prop} (a b d : Int32) (h : z_Inv σ) (hK : ∀ r σ2, z_Inv σ2 → K r r σ2) : w_X5_setRegister a b d σ (fun r σ1 => w_X6_setRegister a b d σ1 (fun r2 σ2 => K r r2 σ2)) := by
  obtain ⟨f, c, sv, F, len, tx, hC, hM, hG⟩ := h
  have h10 := hG.1.1
  have hc := hG.1.2.1
  have hcc : zg_i σ 1 0 = nI c := by rw [ic_0 hC.2.1 (by omega)]; exact hc
  rcases z_cas a c with ⟨m, hm, rfl⟩ | hn
  · rcases z_cas2 b 3 6 with ⟨x, hx1, hx2, rfl⟩ | hn2
    · rcases z_cas2 d 1 50000 with ⟨y, hy1, hy2, rfl⟩ | hn3
      · by_cases hs : f (4 + 18 * m + 2) = nI x
        · refine z_comb (wC := fun Q => w_X5_setRegister (nI m) (nI x) (nI y) σ Q) (wM := fun σ1 Q => w_X6_setRegister (nI m) (nI x) (nI y) σ1 Q) (r := f (4 + 18 * m + 2)) (f' := z_frd (z_freg f m (nI x) (nI y)) m 0) hM (z_GD_rec hG (fine_reg hG.1 hm hx1 hx2 hy1 hy2 0 (Or.inr ⟨rfl, hs⟩))) (fun Q hq => ?_) (fun σ1 h1 Q hq => ?_) hK
          · unfold w_X5_setRegister
            refine s_has_y hcc h10 hm (z_ifn (by decide) (s_within_y (lo := 3) (hi := 6) (by decide) hx1 hx2 (z_ifn (by decide) (s_within_y (lo := 1) (hi := 50000) (by decide) hy1 hy2 (z_ifn (by decide) ?_)))))
            refine push_IC hC (fun τ ht hmf => ⟨z_vin (by omega) (by omega), ?_⟩)
            rw [z_tn (by omega), ic_col 2 ht.2.1 (by omega) (by omega)]
            rintro _ rfl
            exact z_ifp hs.symm (s_reg73 ht (by omega) (fun ρ hr hmf2 => hq ρ (z_IC_ext hr (fun z _ => z_frd_0 _ m z)) (z_mf_tr hmf hmf2)))
          · unfold w_X6_setRegister
            refine s_isMeter_y h1.2.1 hc h10 hm (z_ifn (by decide) (s_in_y (lo := 3) (hi := 6) (by decide) hx1 hx2 (z_ifn (by decide) (s_in_y (lo := 1) (hi := 50000) (by decide) hy1 hy2 (z_ifn (by decide) ?_)))))
            refine saves_IM hG.2.1 h1 (fun τ ht hcf => s_of (c := 2) ht.2.1 (by omega) (by omega) ?_)
            refine s_sets (c := 2) ht (by omega) (by omega) (fun τ2 ht2 hcf2 => s_sets (c := 3) ht2 (by omega) (by omega) (fun τ3 ht3 hcf3 => z_ifp hs ?_))
            exact hq τ3 (z_IM_ext ht3 (fun z _ => z_frd_0 _ m z)) (z_cf_tr hcf (z_cf_tr hcf2 hcf3))
        · refine z_comb (wC := fun Q => w_X5_setRegister (nI m) (nI x) (nI y) σ Q) (wM := fun σ1 Q => w_X6_setRegister (nI m) (nI x) (nI y) σ1 Q) (r := f (4 + 18 * m + 2)) (f' := z_frd (z_freg f m (nI x) (nI y)) m 13) hM (z_GD_rec hG (fine_reg hG.1 hm hx1 hx2 hy1 hy2 13 (Or.inl rfl))) (fun Q hq => ?_) (fun σ1 h1 Q hq => ?_) hK
          · unfold w_X5_setRegister
            refine s_has_y hcc h10 hm (z_ifn (by decide) (s_within_y (lo := 3) (hi := 6) (by decide) hx1 hx2 (z_ifn (by decide) (s_within_y (lo := 1) (hi := 50000) (by decide) hy1 hy2 (z_ifn (by decide) ?_)))))
            refine push_IC hC (fun τ ht hmf => ⟨z_vin (by omega) (by omega), ?_⟩)
            rw [z_tn (by omega), ic_col 2 ht.2.1 (by omega) (by omega)]
            rintro _ rfl
            refine z_ifn (fun e => hs e.symm) (s_forget ht (by omega) (fun ρ0 hr0 hmf0 => s_reg73 hr0 (by omega) (fun ρ hr hmf2 => hq ρ (z_IC_ext hr (fun z _ => ?_)) (z_mf_tr hmf (z_mf_tr hmf0 hmf2)))))
            exact z_freg_frd f m _ _ z
          · unfold w_X6_setRegister
            refine s_isMeter_y h1.2.1 hc h10 hm (z_ifn (by decide) (s_in_y (lo := 3) (hi := 6) (by decide) hx1 hx2 (z_ifn (by decide) (s_in_y (lo := 1) (hi := 50000) (by decide) hy1 hy2 (z_ifn (by decide) ?_)))))
            refine saves_IM hG.2.1 h1 (fun τ ht hcf => s_of (c := 2) ht.2.1 (by omega) (by omega) ?_)
            refine s_sets (c := 2) ht (by omega) (by omega) (fun τ2 ht2 hcf2 => s_sets (c := 3) ht2 (by omega) (by omega) (fun τ3 ht3 hcf3 => z_ifn hs (s_noRead ht3 (by omega) (fun τ4 ht4 hcf4 => ?_))))
            exact hq τ4 ht4 (z_cf_tr hcf (z_cf_tr hcf2 (z_cf_tr hcf3 hcf4)))
      · refine z_comb (wC := fun Q => w_X5_setRegister (nI m) (nI x) d σ Q) (wM := fun σ1 Q => w_X6_setRegister (nI m) (nI x) d σ1 Q) (r := -2000000002) hM hG (fun Q hq => ?_) (fun σ1 h1 Q hq => ?_) hK
        · unfold w_X5_setRegister
          exact s_has_y hcc h10 hm (z_ifn (by decide) (s_within_y (lo := 3) (hi := 6) (by decide) hx1 hx2 (z_ifn (by decide) (s_within_n (lo := 1) (hi := 50000) (by omega) (by omega) hn3 (z_ifp rfl (hq σ hC (z_mf_rfl σ)))))))
        · unfold w_X6_setRegister
          exact s_isMeter_y h1.2.1 hc h10 hm (z_ifn (by decide) (s_in_y (lo := 3) (hi := 6) (by decide) hx1 hx2 (z_ifn (by decide) (s_in_n (lo := 1) (hi := 50000) (by omega) (by omega) hn3 (z_ifp rfl (hq σ1 h1 (z_cf_rfl σ1)))))))
    · refine z_comb (wC := fun Q => w_X5_setRegister (nI m) b d σ Q) (wM := fun σ1 Q => w_X6_setRegister (nI m) b d σ1 Q) (r := -2000000002) hM hG (fun Q hq => ?_) (fun σ1 h1 Q hq => ?_) hK
      · unfold w_X5_setRegister
        exact s_has_y hcc h10 hm (z_ifn (by decide) (s_within_n (lo := 3) (hi := 6) (by omega) (by omega) hn2 (z_ifp rfl (hq σ hC (z_mf_rfl σ)))))
      · unfold w_X6_setRegister
        exact s_isMeter_y h1.2.1 hc h10 hm (z_ifn (by decide) (s_in_n (lo := 3) (hi := 6) (by omega) (by omega) hn2 (z_ifp rfl (hq σ1 h1 (z_cf_rfl σ1)))))
  · refine z_comb (wC := fun Q => w_X5_setRegister a b d σ Q) (wM := fun σ1 Q => w_X6_setRegister a b d σ1 Q) (r := -2000000001) hM hG (fun Q hq => ?_) (fun σ1 h1 Q hq => ?_) hK
    · unfold w_X5_setRegister
      exact s_has_n hcc h10 hn (z_ifp rfl (hq σ hC (z_mf_rfl σ)))
    · unfold w_X6_setRegister
      exact s_isMeter_n h1.2.1 hc h10 hn (z_ifp rfl (hq σ1 h1 (z_cf_rfl σ1)))
