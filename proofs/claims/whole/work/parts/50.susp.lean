/-! imbalances, suspicion -/
def z_ab (x : Int32) : Int32 := if 0 ≤ x then x else 0 - x
def z_scl (e : Int32) : Nat → Int32
  | 0 => e / 10
  | 1 => e / 5
  | 2 => e / 4
  | 3 => e / 2
  | 4 => e * 2
  | 5 => e * 4
  | 6 => e * 5
  | _ => e * 10
def z_im0 (f : Nat → Int32) (c m : Nat) (i : Nat) : Int32 := z_ab (z_loss f c m i)
def z_im (f : Nat → Int32) (c m k g : Nat) (i : Nat) : Int32 := z_ab (z_loss f c m i + z_en f k i - z_scl (z_en f k i) g)
theorem z_g8 {g : Nat} (hg : g < 8) : g = 0 ∨ g = 1 ∨ g = 2 ∨ g = 3 ∨ g = 4 ∨ g = 5 ∨ g = 6 ∨ g = 7 := by omega
theorem rc_scl {e : Int32} {g : Nat} {σ : z_S} {Q : Int32 → z_S → Prop} (hg : g < 8) (hq : Q (z_scl e g) σ) : w_X1_scaled e (nI g) σ Q := by
  unfold w_X1_scaled
  rcases z_g8 hg with rfl | rfl | rfl | rfl | rfl | rfl | rfl | rfl
  · exact z_ifp (by decide) ⟨by decide, hq⟩
  · exact z_ifn (by decide) (z_ifp (by decide) ⟨by decide, hq⟩)
  · exact z_ifn (by decide) (z_ifn (by decide) (z_ifp (by decide) ⟨by decide, hq⟩))
  · exact z_ifn (by decide) (z_ifn (by decide) (z_ifn (by decide) (z_ifp (by decide) ⟨by decide, hq⟩)))
  · exact z_ifn (by decide) (z_ifn (by decide) (z_ifn (by decide) (z_ifn (by decide) (z_ifp (by decide) hq))))
  · exact z_ifn (by decide) (z_ifn (by decide) (z_ifn (by decide) (z_ifn (by decide) (z_ifn (by decide) (z_ifp (by decide) hq)))))
  · exact z_ifn (by decide) (z_ifn (by decide) (z_ifn (by decide) (z_ifn (by decide) (z_ifn (by decide) (z_ifn (by decide) (z_ifp (by decide) hq))))))
  · exact z_ifn (by decide) (z_ifn (by decide) (z_ifn (by decide) (z_ifn (by decide) (z_ifn (by decide) (z_ifn (by decide) (z_ifn (by decide) hq))))))
theorem rm_tms {e : Int32} {g : Nat} {σ : z_S} {Q : Int32 → z_S → Prop} (hg : g < 8) (hq : Q (z_scl e g) σ) : w_X6_times e (nI g) σ Q := by
  unfold w_X6_times
  rw [Int32.mul_comm 2 e, Int32.mul_comm 4 e, Int32.mul_comm 5 e, Int32.mul_comm 10 e]
  rcases z_g8 hg with rfl | rfl | rfl | rfl | rfl | rfl | rfl | rfl
  · exact z_ifp (by decide) ⟨by decide, hq⟩
  · exact z_ifn (by decide) (z_ifp (by decide) ⟨by decide, hq⟩)
  · exact z_ifn (by decide) (z_ifn (by decide) (z_ifp (by decide) ⟨by decide, hq⟩))
  · exact z_ifn (by decide) (z_ifn (by decide) (z_ifn (by decide) (z_ifp (by decide) ⟨by decide, hq⟩)))
  · exact z_ifn (by decide) (z_ifn (by decide) (z_ifn (by decide) (z_ifn (by decide) (z_ifp (by decide) hq))))
  · exact z_ifn (by decide) (z_ifn (by decide) (z_ifn (by decide) (z_ifn (by decide) (z_ifn (by decide) (z_ifp (by decide) hq)))))
  · exact z_ifn (by decide) (z_ifn (by decide) (z_ifn (by decide) (z_ifn (by decide) (z_ifn (by decide) (z_ifn (by decide) (z_ifp (by decide) hq))))))
  · exact z_ifn (by decide) (z_ifn (by decide) (z_ifn (by decide) (z_ifn (by decide) (z_ifn (by decide) (z_ifn (by decide) (z_ifn (by decide) (z_ifp (by decide) hq)))))))
theorem l_rc_im0 {f : Nat → Int32} {c m : Nat} {σ : z_S} {Q : Int32 → z_S → Prop} (h : z_rc f c σ) (hm : m < c) (hs : z_fam f c m σ) (hq : Q (z_sum (z_im0 f c m) 12) σ) : ∀ d i n, i + d = 12 → d < n → w_X1_sumImbalance_5 Q n (nI m) (z_sum (z_im0 f c m) i) (nI i) σ := by
  intro d
  induction d with
  | zero =>
    intro i n hi hn
    obtain ⟨n, rfl⟩ : ∃ k, n = k + 1 := ⟨n - 1, by omega⟩
    obtain rfl : i = 12 := by omega
    show wb_X1_sumImbalance_5 Q (w_X1_sumImbalance_5 Q n) _ _ _ _
    unfold wb_X1_sumImbalance_5
    exact z_ifp (by decide) hq
  | succ d ih =>
    intro i n hi hn
    obtain ⟨n, rfl⟩ : ∃ k, n = k + 1 := ⟨n - 1, by omega⟩
    show wb_X1_sumImbalance_5 Q (w_X1_sumImbalance_5 Q n) _ _ _ _
    unfold wb_X1_sumImbalance_5
    refine z_ifn (nI_ge (a := i) (b := 12) (by omega) (by omega)) (rc_loss h hm (by omega) hs ?_)
    rintro _ rfl _ rfl
    rw [nI_1]
    exact ih (i + 1) n (by omega) (by omega)
theorem l_rc_im {f : Nat → Int32} {c m k g : Nat} {σ : z_S} {Q : Int32 → z_S → Prop} (h : z_rc f c σ) (hm : m < c) (hs : z_fam f c m σ) (hk : k ∈ z_kids f c m) (hg : g < 8) (hq : Q (z_sum (z_im f c m k g) 12) σ) : ∀ d i n, i + d = 12 → d < n → w_X1_sumImbalanceScaled_6 Q n (nI m) (nI k) (nI g) (z_sum (z_im f c m k g) i) (nI i) σ := by
  have h10 := h.2.1
  have hkk := z_kids_mem hk
  intro d
  induction d with
  | zero =>
    intro i n hi hn
    obtain ⟨n, rfl⟩ : ∃ k, n = k + 1 := ⟨n - 1, by omega⟩
    obtain rfl : i = 12 := by omega
    show wb_X1_sumImbalanceScaled_6 Q (w_X1_sumImbalanceScaled_6 Q n) _ _ _ _ _ _
    unfold wb_X1_sumImbalanceScaled_6
    exact z_ifp (by decide) hq
  | succ d ih =>
    intro i n hi hn
    obtain ⟨n, rfl⟩ : ∃ k, n = k + 1 := ⟨n - 1, by omega⟩
    show wb_X1_sumImbalanceScaled_6 Q (w_X1_sumImbalanceScaled_6 Q n) _ _ _ _ _ _
    unfold wb_X1_sumImbalanceScaled_6
    rw [z_tn (by omega), z_tn (by omega), hs k (Or.inr hk) i (by omega)]
    refine z_ifn (nI_ge (a := i) (b := 12) (by omega) (by omega)) ⟨z_vin (by omega) (by omega), z_vin (by omega) (by omega), ?_⟩
    rintro _ rfl
    refine rc_loss h hm (by omega) hs (rc_scl hg ?_)
    rintro _ rfl _ rfl
    rw [nI_1]
    exact ih (i + 1) n (by omega) (by omega)
theorem rm_71 {f : Nat → Int32} {σ : z_S} {Q : Int32 → z_S → Prop} {K : Int32 → Int32 → Int32 → Int32 → Int32 → z_S → Prop} {x1 x2 x3 x4 s0 s1 : Int32} {i : Nat} (hq : K x1 x2 x3 (x4 + z_ab (s1 + s0)) (nI (i + 1)) σ) : w_X6_imbalanceOf_53 K Q x1 x2 x3 x4 (nI i) s0 s1 σ := by
  unfold w_X6_imbalanceOf_53 w_X6_imbalanceOf_71
  rintro _ rfl
  unfold z_ab at hq
  refine z_ite (fun e => ?_) (fun e => ?_)
  · rw [if_pos e] at hq
    rintro _ rfl _ rfl
    rw [nI_1]
    exact hq
  · rw [if_neg e, Int32.zero_sub] at hq
    rintro _ rfl _ rfl
    rw [nI_1]
    exact hq
theorem l_rm_im0 {f : Nat → Int32} {c m : Nat} {x : Int32} {σ : z_S} {Q : Int32 → z_S → Prop} (h : z_rm f c σ) (hm : m < c) (hq : Q (z_sum (z_im0 f c m) 12) σ) : ∀ d i n, i + d = 12 → d < n → w_X6_imbalanceOf_6 Q n (nI m) x 8 (z_sum (z_im0 f c m) i) (nI i) σ := by
  intro d
  induction d with
  | zero =>
    intro i n hi hn
    obtain ⟨n, rfl⟩ : ∃ k, n = k + 1 := ⟨n - 1, by omega⟩
    obtain rfl : i = 12 := by omega
    show wb_X6_imbalanceOf_6 Q (w_X6_imbalanceOf_6 Q n) _ _ _ _ _ _
    unfold wb_X6_imbalanceOf_6
    exact z_ifp (by decide) hq
  | succ d ih =>
    intro i n hi hn
    obtain ⟨n, rfl⟩ : ∃ k, n = k + 1 := ⟨n - 1, by omega⟩
    show wb_X6_imbalanceOf_6 Q (w_X6_imbalanceOf_6 Q n) _ _ _ _ _ _
    unfold wb_X6_imbalanceOf_6
    refine z_ifn (nI_ge (a := i) (b := 12) (by omega) (by omega)) (rm_loss h hm (by omega) (z_ifp (by decide) (rm_71 (f := f) ?_)))
    rw [Int32.add_zero]
    exact ih (i + 1) n (by omega) (by omega)
theorem l_rm_im {f : Nat → Int32} {c m k g : Nat} {σ : z_S} {Q : Int32 → z_S → Prop} (h : z_rm f c σ) (hm : m < c) (hk : k < c) (hg : g < 8) (hq : Q (z_sum (z_im f c m k g) 12) σ) : ∀ d i n, i + d = 12 → d < n → w_X6_imbalanceOf_6 Q n (nI m) (nI k) (nI g) (z_sum (z_im f c m k g) i) (nI i) σ := by
  intro d
  induction d with
  | zero =>
    intro i n hi hn
    obtain ⟨n, rfl⟩ : ∃ k, n = k + 1 := ⟨n - 1, by omega⟩
    obtain rfl : i = 12 := by omega
    show wb_X6_imbalanceOf_6 Q (w_X6_imbalanceOf_6 Q n) _ _ _ _ _ _
    unfold wb_X6_imbalanceOf_6
    exact z_ifp (by decide) hq
  | succ d ih =>
    intro i n hi hn
    obtain ⟨n, rfl⟩ : ∃ k, n = k + 1 := ⟨n - 1, by omega⟩
    show wb_X6_imbalanceOf_6 Q (w_X6_imbalanceOf_6 Q n) _ _ _ _ _ _
    unfold wb_X6_imbalanceOf_6
    refine z_ifn (nI_ge (a := i) (b := 12) (by omega) (by omega)) (rm_loss h hm (by omega) (z_ifn (nI_ge (a := g) (b := 8) (by omega) (by omega)) (rm_energy h hk (by omega) (rm_energy h hk (by omega) (rm_tms hg (rm_71 (f := f) ?_))))))
    rw [show z_loss f c m i + (z_en f k i - z_scl (z_en f k i) g) = z_loss f c m i + z_en f k i - z_scl (z_en f k i) g by rw [Int32.sub_eq_add_neg, Int32.sub_eq_add_neg, Int32.add_assoc]]
    exact ih (i + 1) n (by omega) (by omega)
theorem op_imbalance {σ : z_S} {K : Int32 → Int32 → z_S → Prop} (a : Int32) (h : z_Inv σ) (hK : ∀ r σ2, z_Inv σ2 → K r r σ2) : w_X5_imbalance a σ (fun r σ1 => w_X6_imbalance a σ1 (fun r2 σ2 => K r r2 σ2)) := by
  unfold w_X5_imbalance w_X6_imbalance
  refine op_gm (fun σ2 Q => w_X4_countChildren a σ2 (fun r4 σ5 => if r4 = 0 then (Q (-2000000000 : Int32) σ5) else (w_X1_measureFamily a σ5 (fun σ8 => w_X1_sumImbalance a σ8 (fun r9 σ10 => Q r9 σ10))))) (fun σ2 Q => w_X6_children a σ2 (fun r4 σ5 => if r4 = 0 then (Q (-2000000000 : Int32) σ5) else (w_X6_imbalanceOf a 0 8 σ5 (fun r7 σ8 => Q r7 σ8)))) h ?_ hK
  rintro f c m hm rfl hf
  by_cases e : nI (z_kids f c m).length = 0
  · exact ⟨-2000000000, fun σ Q hr hq => rc_ch hr hm (z_ifp e (hq σ (z_cs_rfl σ))), fun σ1 Q hr hq => rm_ch hr hm (z_ifp e (hq σ1 (z_ms_rfl σ1)))⟩
  · exact ⟨z_sum (z_im0 f c m) 12, fun σ Q hr hq => rc_ch hr hm (z_ifn e (rc_fam hr hm (fun τ hτ hs => l_rc_im0 (z_rc_cs hr hτ) hm hs (hq τ hτ) 12 0 400 (by omega) (by omega)))), fun σ1 Q hr hq => rm_ch hr hm (z_ifn e (l_rm_im0 hr hm (hq σ1 (z_ms_rfl σ1)) 12 0 400 (by omega) (by omega)))⟩
theorem op_imbalanceWith {σ : z_S} {K : Int32 → Int32 → z_S → Prop} (a b d : Int32) (h : z_Inv σ) (hK : ∀ r σ2, z_Inv σ2 → K r r σ2) : w_X5_imbalanceWith a b d σ (fun r σ1 => w_X6_imbalanceWith a b d σ1 (fun r2 σ2 => K r r2 σ2)) := by
  obtain ⟨f, c, sv, F, len, tx, hC, hM, hG⟩ := h
  have h10 := hG.1.1
  have hrc : z_rc f c σ := ⟨hC.2.1, hG.1⟩
  rcases z_cas a c with ⟨m, hm, rfl⟩ | hn
  · cases e : z_nth (z_kids f c m) 0 b with
    | none =>
      refine op_rd (wC := fun Q => w_X5_imbalanceWith (nI m) b d σ Q) (wM := fun σ1 Q => w_X6_imbalanceWith (nI m) b d σ1 Q) (-2000000001) hC hM hG (fun Q hq => ?_) (fun σ1 h1 Q hq => ?_) hK
      · unfold w_X5_imbalanceWith
        refine s_has_y (rc_cnt hrc) h10 hm (z_ifn (by decide) (rc_fc hrc hm ?_))
        rw [e]
        exact s_has_n (rc_cnt hrc) h10 (fun j hj q => z_nI_none (by omega) q.symm) (z_ifp rfl (hq σ (z_cs_rfl σ)))
      · unfold w_X6_imbalanceWith
        refine s_isMeter_y h1.1 h1.2.2.1 h10 hm (z_ifn (by decide) (rm_fc h1 hm ?_))
        rw [e]
        exact z_ifp rfl (hq σ1 (z_ms_rfl σ1))
    | some k =>
      have hk := z_nth_mem _ _ e
      have hkk := z_kids_mem hk
      rcases z_cas d 8 with ⟨g, hg, rfl⟩ | hn2
      · refine op_rd (wC := fun Q => w_X5_imbalanceWith (nI m) b (nI g) σ Q) (wM := fun σ1 Q => w_X6_imbalanceWith (nI m) b (nI g) σ1 Q) (z_sum (z_im f c m k g) 12) hC hM hG (fun Q hq => ?_) (fun σ1 h1 Q hq => ?_) hK
        · unfold w_X5_imbalanceWith
          refine s_has_y (rc_cnt hrc) h10 hm (z_ifn (by decide) (rc_fc hrc hm ?_))
          rw [e]
          exact s_has_y (rc_cnt hrc) h10 hkk.2.1 (z_ifn (by decide) (s_within_y (lo := 0) (hi := 7) (by omega) (by omega) (by omega) (z_ifn (by decide) (rc_fam hrc hm (fun τ hτ hs => l_rc_im (z_rc_cs hrc hτ) hm hs hk hg (hq τ hτ) 12 0 400 (by omega) (by omega))))))
        · unfold w_X6_imbalanceWith
          refine s_isMeter_y h1.1 h1.2.2.1 h10 hm (z_ifn (by decide) (rm_fc h1 hm ?_))
          rw [e]
          exact z_ifn (z_nI_bad (by omega)) (s_in_y (lo := 0) (hi := 7) (by omega) (by omega) (by omega) (z_ifn (by decide) (l_rm_im h1 hm hkk.2.1 hg (hq σ1 (z_ms_rfl σ1)) 12 0 400 (by omega) (by omega))))
      · refine op_rd (wC := fun Q => w_X5_imbalanceWith (nI m) b d σ Q) (wM := fun σ1 Q => w_X6_imbalanceWith (nI m) b d σ1 Q) (-2000000002) hC hM hG (fun Q hq => ?_) (fun σ1 h1 Q hq => ?_) hK
        · unfold w_X5_imbalanceWith
          refine s_has_y (rc_cnt hrc) h10 hm (z_ifn (by decide) (rc_fc hrc hm ?_))
          rw [e]
          exact s_has_y (rc_cnt hrc) h10 hkk.2.1 (z_ifn (by decide) (s_within_n (lo := 0) (hi := 7) (by omega) (by omega) (fun i _ g => hn2 i (by omega)) (z_ifp rfl (hq σ (z_cs_rfl σ)))))
        · unfold w_X6_imbalanceWith
          refine s_isMeter_y h1.1 h1.2.2.1 h10 hm (z_ifn (by decide) (rm_fc h1 hm ?_))
          rw [e]
          exact z_ifn (z_nI_bad (by omega)) (s_in_n (lo := 0) (hi := 7) (by omega) (by omega) (fun i _ g => hn2 i (by omega)) (z_ifp rfl (hq σ1 (z_ms_rfl σ1))))
  · refine op_rd (wC := fun Q => w_X5_imbalanceWith a b d σ Q) (wM := fun σ1 Q => w_X6_imbalanceWith a b d σ1 Q) (-2000000001) hC hM hG (fun Q hq => ?_) (fun σ1 h1 Q hq => ?_) hK
    · unfold w_X5_imbalanceWith
      exact s_has_n (rc_cnt hrc) h10 hn (z_ifp rfl (hq σ (z_cs_rfl σ)))
    · unfold w_X6_imbalanceWith
      exact s_isMeter_n h1.1 h1.2.2.1 h10 hn (z_ifp rfl (z_ifp rfl (hq σ1 (z_ms_rfl σ1))))
/-! suspect -/
def z_su8 (w : Nat → Nat → Int32) (k : Nat) : Nat → Nat → Int32 → Int32 → Int32 × Int32
  | 0, _, b, l => (b, l)
  | d + 1, j, b, l => if b = zNONE then z_su8 w k d (j + 1) (10 * nI k + nI j) (w k j) else if l ≤ w k j then z_su8 w k d (j + 1) b l else z_su8 w k d (j + 1) (10 * nI k + nI j) (w k j)
def z_su (w : Nat → Nat → Int32) : List Nat → Int32 → Int32 → Int32 × Int32
  | [], b, l => (b, l)
  | k :: r, b, l => z_su w r (z_su8 w k 8 0 b l).1 (z_su8 w k 8 0 b l).2
def z_suA (i : Int32) (p : Int32 × Int32) : Int32 := if p.1 = zNONE then zNONE else if 0 ≤ lg_cmp (p.2.toInt64 * (4 : Int64)) i.toInt64 then zNONE else p.1
theorem l_rc_su8 {w : Nat → Nat → Int32} {f : Nat → Int32} {c m k : Nat} {σ : z_S} {Q : Int32 → z_S → Prop} {K : Int32 → Int32 → Int32 → Int32 → z_S → Prop} (h : z_rc f c σ) (hw : ∀ k g, w k g = z_sum (z_im f c m k g) 12) (hm : m < c) (hs : z_fam f c m σ) (hk : k ∈ z_kids f c m) : ∀ d j n, j + d = 8 → d < n → ∀ b l, K (nI m) (z_su8 w k d j b l).2 (z_su8 w k d j b l).1 (nI (k + 1)) σ → w_X1_findSuspect_34 K Q n (nI m) l b (nI k) (nI j) σ := by
  intro d
  induction d with
  | zero =>
    intro j n hj hn b l hq
    obtain ⟨n, rfl⟩ : ∃ k, n = k + 1 := ⟨n - 1, by omega⟩
    obtain rfl : j = 8 := by omega
    show wb_X1_findSuspect_34 K Q (w_X1_findSuspect_34 K Q n) _ _ _ _ _ _
    unfold wb_X1_findSuspect_34 w_X1_findSuspect_85
    refine z_ifp (by decide) ?_
    rintro _ rfl
    rw [nI_1]
    exact hq
  | succ d ih =>
    intro j n hj hn b l hq
    obtain ⟨n, rfl⟩ : ∃ k, n = k + 1 := ⟨n - 1, by omega⟩
    show wb_X1_findSuspect_34 K Q (w_X1_findSuspect_34 K Q n) _ _ _ _ _ _
    unfold wb_X1_findSuspect_34 w_X1_findSuspect_66 w_X1_findSuspect_79
    unfold z_su8 at hq
    have key : ∀ Q' : Int32 → z_S → Prop, Q' (w k j) σ → w_X1_sumImbalanceScaled (nI m) (nI k) (nI j) σ Q' := fun Q' q => l_rc_im h hm hs hk (by omega) (by rw [← hw]; exact q) 12 0 400 (by omega) (by omega)
    refine z_ifn (nI_ge (a := j) (b := 8) (by omega) (by omega)) (key _ ?_)
    by_cases e1 : b = zNONE
    · rw [if_pos e1] at hq
      refine z_ifp e1 ?_
      rintro _ rfl _ rfl
      rw [nI_1]
      exact ih (j + 1) n (by omega) (by omega) _ _ hq
    · rw [if_neg e1] at hq
      refine z_ifn e1 ?_
      by_cases e2 : l ≤ w k j
      · rw [if_pos e2] at hq
        refine z_ifp e2 ?_
        rintro _ rfl
        rw [nI_1]
        exact ih (j + 1) n (by omega) (by omega) _ _ hq
      · rw [if_neg e2] at hq
        refine z_ifn e2 ?_
        rintro _ rfl _ rfl
        rw [nI_1]
        exact ih (j + 1) n (by omega) (by omega) _ _ hq
theorem l_rc_su {w : Nat → Nat → Int32} {I0 : Int32} {f : Nat → Int32} {c m : Nat} {σ : z_S} {Q : Int32 → z_S → Prop} (h : z_rc f c σ) (hw : ∀ k g, w k g = z_sum (z_im f c m k g) 12) (hI : I0 = z_sum (z_im0 f c m) 12) (hm : m < c) (hs : z_fam f c m σ) : ∀ d i n, i + d = c → d < n → (∀ k, k ∈ z_kd f m d i → k ∈ z_kids f c m) → ∀ b l, Q (z_suA I0 (z_su w (z_kd f m d i) b l)) σ → w_X1_findSuspect_11 Q n (nI m) l b (nI i) σ := by
  have h10 := h.2.1
  intro d
  induction d with
  | zero =>
    intro i n hi hn hsub b l hq
    obtain ⟨n, rfl⟩ : ∃ k, n = k + 1 := ⟨n - 1, by omega⟩
    obtain rfl : i = c := by omega
    show wb_X1_findSuspect_11 Q (w_X1_findSuspect_11 Q n) _ _ _ _ _
    unfold wb_X1_findSuspect_11
    rw [rc_cnt h]
    have key : ∀ Q' : Int32 → z_S → Prop, Q' I0 σ → w_X1_sumImbalance (nI m) σ Q' := fun Q' q => l_rc_im0 h hm hs (by rw [← hI]; exact q) 12 0 400 (by omega) (by omega)
    refine z_ifp (nI_le (Nat.le_refl i) (by omega)) (key _ ?_)
    unfold z_suA at hq
    by_cases e : b = zNONE
    · rw [if_pos (show (z_su w (z_kd f m 0 i) b l).1 = zNONE from e)] at hq
      exact z_ite (fun _ => hq) (fun _ => by rw [e]; exact hq)
    · rw [if_neg (show ¬ (z_su w (z_kd f m 0 i) b l).1 = zNONE from e)] at hq
      exact z_iteQ hq (fun _ q => q) (fun _ q => q)
  | succ d ih =>
    intro i n hi hn hsub b l hq
    obtain ⟨n, rfl⟩ : ∃ k, n = k + 1 := ⟨n - 1, by omega⟩
    show wb_X1_findSuspect_11 Q (w_X1_findSuspect_11 Q n) _ _ _ _ _
    unfold wb_X1_findSuspect_11
    rw [rc_cnt h, z_tn (by omega), rc_par h (by omega)]
    refine z_ifn (nI_ge (by omega) (by omega)) ⟨z_vin (by omega) (by omega), ?_⟩
    unfold z_kd at hq hsub
    by_cases e : f (4 + 18 * i) = nI m
    · rw [if_pos e] at hq hsub
      unfold z_su at hq
      exact z_ifp e (l_rc_su8 h hw hm hs (hsub i List.mem_cons_self) 8 0 400 (by omega) (by omega) b l (ih (i + 1) n (by omega) (by omega) (fun k hk => hsub k (List.mem_cons_of_mem _ hk)) _ _ hq))
    · rw [if_neg e] at hq hsub
      refine z_ifn e ?_
      unfold w_X1_findSuspect_85
      rintro _ rfl
      rw [nI_1]
      exact ih (i + 1) n (by omega) (by omega) hsub b l hq
theorem l_rm_su8 {w : Nat → Nat → Int32} {f : Nat → Int32} {c m k : Nat} {σ : z_S} {Q : Int32 → z_S → Prop} {K : Int32 → Int32 → Int32 → Int32 → z_S → Prop} (h : z_rm f c σ) (hw : ∀ k g, w k g = z_sum (z_im f c m k g) 12) (hm : m < c) (hk : k < c) (hp : f (4 + 18 * k) = nI m) : ∀ d j n, j + d = 8 → d < n → ∀ b l, K (nI m) (z_su8 w k d j b l).1 (z_su8 w k d j b l).2 (nI (k + 1)) σ → w_X6_suspect_33 K Q n (nI m) b l (nI k) (nI j) σ := by
  intro d
  induction d with
  | zero =>
    intro j n hj hn b l hq
    obtain ⟨n, rfl⟩ : ∃ k, n = k + 1 := ⟨n - 1, by omega⟩
    obtain rfl : j = 8 := by omega
    show wb_X6_suspect_33 K Q (w_X6_suspect_33 K Q n) _ _ _ _ _ _
    unfold wb_X6_suspect_33 w_X6_suspect_117
    refine z_ifp (by decide) ?_
    rintro _ rfl
    rw [nI_1]
    exact hq
  | succ d ih =>
    intro j n hj hn b l hq
    obtain ⟨n, rfl⟩ : ∃ k, n = k + 1 := ⟨n - 1, by omega⟩
    show wb_X6_suspect_33 K Q (w_X6_suspect_33 K Q n) _ _ _ _ _ _
    unfold wb_X6_suspect_33 w_X6_suspect_74 w_X6_suspect_79 w_X6_suspect_98 w_X6_suspect_110
    unfold z_su8 at hq
    have key : ∀ Q' : Int32 → z_S → Prop, Q' (w k j) σ → w_X6_imbalanceOf (nI m) (nI k) (nI j) σ Q' := fun Q' q => l_rm_im h hm hk (by omega) (by rw [← hw]; exact q) 12 0 400 (by omega) (by omega)
    refine z_ifn (nI_ge (a := j) (b := 8) (by omega) (by omega)) (rm_of (k := 0) h hk (by omega) (z_ifp hp (key _ ?_)))
    by_cases e1 : b = zNONE
    · rw [if_pos e1] at hq
      refine z_ifp e1 (z_ifn (by decide) (z_ifn (by decide) ?_))
      rintro _ rfl
      rw [nI_1]
      exact ih (j + 1) n (by omega) (by omega) _ _ hq
    · rw [if_neg e1] at hq
      refine z_ifn e1 ?_
      by_cases e2 : l ≤ w k j
      · rw [if_pos e2] at hq
        refine z_ifp e2 (z_ifp rfl (z_ifp rfl ?_))
        rintro _ rfl
        rw [nI_1]
        exact ih (j + 1) n (by omega) (by omega) _ _ hq
      · rw [if_neg e2] at hq
        refine z_ifn e2 (z_ifn (by decide) (z_ifn (by decide) ?_))
        rintro _ rfl
        rw [nI_1]
        exact ih (j + 1) n (by omega) (by omega) _ _ hq
theorem l_rm_su {w : Nat → Nat → Int32} {I0 : Int32} {f : Nat → Int32} {c m : Nat} {σ : z_S} {Q : Int32 → z_S → Prop} (h : z_rm f c σ) (hw : ∀ k g, w k g = z_sum (z_im f c m k g) 12) (hI : I0 = z_sum (z_im0 f c m) 12) (hm : m < c) : ∀ d i n, i + d = c → d < n → ∀ b l, Q (z_suA I0 (z_su w (z_kd f m d i) b l)) σ → w_X6_suspect_19 Q n (nI m) b l (nI i) σ := by
  have h10 := h.2.1
  intro d
  induction d with
  | zero =>
    intro i n hi hn b l hq
    obtain ⟨n, rfl⟩ : ∃ k, n = k + 1 := ⟨n - 1, by omega⟩
    obtain rfl : i = c := by omega
    show wb_X6_suspect_19 Q (w_X6_suspect_19 Q n) _ _ _ _ _
    unfold wb_X6_suspect_19
    rw [show (0 : Int32).toNatClampNeg = 0 from rfl, rm_cnt h]
    refine ⟨z_vin (i := 0) (by omega) (by omega), z_ifp (nI_le (Nat.le_refl i) (by omega)) ?_⟩
    unfold z_suA at hq
    by_cases e : b = zNONE
    · rw [if_pos (show (z_su w (z_kd f m 0 i) b l).1 = zNONE from e)] at hq
      exact z_ifp e hq
    · rw [if_neg (show ¬ (z_su w (z_kd f m 0 i) b l).1 = zNONE from e)] at hq
      have key : ∀ Q' : Int32 → z_S → Prop, Q' I0 σ → w_X6_imbalanceOf (nI m) 0 8 σ Q' := fun Q' q => l_rm_im0 h hm (by rw [← hI]; exact q) 12 0 400 (by omega) (by omega)
      refine z_ifn e (key _ ?_)
      rw [Int64.mul_comm (4 : Int64)]
      exact z_iteQ hq (fun _ q => q) (fun _ q => q)
  | succ d ih =>
    intro i n hi hn b l hq
    obtain ⟨n, rfl⟩ : ∃ k, n = k + 1 := ⟨n - 1, by omega⟩
    show wb_X6_suspect_19 Q (w_X6_suspect_19 Q n) _ _ _ _ _
    unfold wb_X6_suspect_19
    rw [show (0 : Int32).toNatClampNeg = 0 from rfl, rm_cnt h]
    refine ⟨z_vin (i := 0) (by omega) (by omega), z_ifn (nI_ge (by omega) (by omega)) ?_⟩
    unfold z_kd at hq
    by_cases e : f (4 + 18 * i) = nI m
    · rw [if_pos e] at hq
      unfold z_su at hq
      exact l_rm_su8 h hw hm (by omega) e 8 0 400 (by omega) (by omega) b l (ih (i + 1) n (by omega) (by omega) _ _ hq)
    · rw [if_neg e] at hq
      show wb_X6_suspect_33 (w_X6_suspect_19 Q n) Q (w_X6_suspect_33 (w_X6_suspect_19 Q n) Q 399) _ _ _ _ 0 _
      unfold wb_X6_suspect_33 w_X6_suspect_117
      refine z_ifn (by decide) (rm_of (k := 0) h (by omega) (by omega) (z_ifn e ?_))
      rintro _ rfl
      rw [nI_1]
      exact ih (i + 1) n (by omega) (by omega) b l hq
theorem op_suspect {σ : z_S} {K : Int32 → Int32 → z_S → Prop} (a : Int32) (h : z_Inv σ) (hK : ∀ r σ2, z_Inv σ2 → K r r σ2) : w_X5_suspect a σ (fun r σ1 => w_X6_suspect a σ1 (fun r2 σ2 => K r r2 σ2)) := by
  unfold w_X5_suspect w_X6_suspect
  refine op_gm (fun σ2 Q => w_X4_countChildren a σ2 (fun r4 σ5 => if r4 = 0 then (Q (-2000000000 : Int32) σ5) else (w_X1_measureFamily a σ5 (fun σ8 => w_X1_findSuspect a σ8 (fun r9 σ10 => Q r9 σ10))))) (fun σ2 Q => w_X6_suspect_19 Q 400 a (-2000000000 : Int32) 0 1 σ2) h ?_ hK
  rintro f c m hm rfl hf
  have h10 := hf.1
  refine ⟨z_suA (z_sum (z_im0 f c m) 12) (z_su (fun k g => z_sum (z_im f c m k g) 12) (z_kids f c m) zNONE 0), fun σ Q hr hq => rc_ch hr hm ?_, fun σ1 Q hr hq => l_rm_su hr (fun _ _ => rfl) rfl hm (c - 1) 1 400 (by omega) (by omega) _ _ (by rw [z_kd_skip hf hm m 1 (by omega)]; exact hq σ1 (z_ms_rfl σ1))⟩
  by_cases e : (z_kids f c m).length = 0
  · refine z_ifp ((z_k0 h10).mpr e) ?_
    have := hq σ (z_cs_rfl σ)
    rw [List.eq_nil_of_length_eq_zero e] at this
    exact this
  · refine z_ifn (fun q => e ((z_k0 h10).mp q)) (rc_fam hr hm (fun τ hτ hs => ?_))
    unfold w_X1_findSuspect
    rintro _ rfl
    rw [nI_1]
    exact l_rc_su (z_rc_cs hr hτ) (fun _ _ => rfl) rfl hm hs (c - (m + 1)) (m + 1) 400 (by omega) (by omega) (fun k hk => hk) _ _ (hq τ hτ)
