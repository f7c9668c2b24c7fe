/-! setAll; meter, child -/
theorem z_for {W : Nat → Nat → Prop} {N : Nat} (h0 : ∀ n, W (n + 1) N) (hs : ∀ i n, i < N → W n (i + 1) → W (n + 1) i) : ∀ (d i n : Nat), i + d = N → d < n → W n i := by
  intro d
  induction d with
  | zero =>
    intro i n hi hn
    obtain ⟨n, rfl⟩ : ∃ k, n = k + 1 := ⟨n - 1, by omega⟩
    obtain rfl : i = N := by omega
    exact h0 n
  | succ d ih =>
    intro i n hi hn
    obtain ⟨n, rfl⟩ : ∃ k, n = k + 1 := ⟨n - 1, by omega⟩
    exact hs i n (by omega) (ih (i + 1) n (by omega) (by omega))
/-- the readings of a meter replaced, the first n -/
def z_fsa (f : Nat → Int32) (m : Nat) (g : Nat → Int32) (n : Nat) : Nat → Int32 := fun x => if 9 + 18 * m ≤ x ∧ x < 9 + 18 * m + n then g (x - (9 + 18 * m)) else f x
theorem z_fsa_0 (f : Nat → Int32) (m : Nat) (g : Nat → Int32) (x : Nat) : f x = z_fsa f m g 0 x := by
  unfold z_fsa
  rw [if_neg (by omega)]
theorem z_fsa_s (f : Nat → Int32) (m : Nat) (g : Nat → Int32) (i : Nat) : z_fup (z_fsa f m g i) (9 + 18 * m + i) (g i) = z_fsa f m g (i + 1) := by
  funext x
  unfold z_fup z_fsa
  by_cases h1 : x = 9 + 18 * m + i
  · rw [if_pos h1, if_pos (by omega), h1, Nat.add_sub_cancel_left]
  · rw [if_neg h1]
    by_cases h2 : 9 + 18 * m ≤ x ∧ x < 9 + 18 * m + i
    · rw [if_pos h2, if_pos (by omega)]
    · rw [if_neg h2, if_neg (by omega)]
theorem z_fsa_in (f : Nat → Int32) {m n b : Nat} (g : Nat → Int32) (hb : b < n) : z_fsa f m g n (9 + 18 * m + b) = g b := by
  unfold z_fsa
  rw [if_pos (by omega), Nat.add_sub_cancel_left]
theorem z_fsa_ne (f : Nat → Int32) {m n x : Nat} (g : Nat → Int32) (hx : x < 9 + 18 * m ∨ 9 + 18 * m + n ≤ x) : z_fsa f m g n x = f x := if_neg (by omega)
theorem fine_fsa {f : Nat → Int32} {c m d : Nat} {g : Nat → Int32} (h : z_fine f c) (hm : m < c) (hd : f (4 + 18 * m + 2) = nI d) (h6 : d ≤ 6) (hg : ∀ b, b < 13 → ∃ v, v < 10 ^ d ∧ g b = nI v) : ∀ n, n ≤ 13 → z_fine (z_fsa f m g n) c := by
  intro n
  induction n with
  | zero =>
    intro _
    have : z_fsa f m g 0 = f := funext fun x => (z_fsa_0 f m g x).symm
    rw [this]
    exact h
  | succ n ih =>
    intro hn
    rw [← z_fsa_s]
    obtain ⟨v, hv, e⟩ := hg n (by omega)
    exact fine_read (ih (by omega)) (by omega) hm (Or.inr ⟨d, v, by rw [z_fsa_ne f g (by omega)]; exact hd, h6, hv, e⟩)
def z_sav (s t p b : Nat) : Nat := (s + b * t) % p
theorem z_sav_s {s t p b : Nat} (ht : t < p) : z_sav s t p (b + 1) = if z_sav s t p b + t < p then z_sav s t p b + t else z_sav s t p b + t - p := by
  unfold z_sav
  have e : s + (b + 1) * t = (s + b * t) + t := by rw [Nat.add_mul]; omega
  have hp : 0 < p := by omega
  have hl := Nat.mod_lt (s + b * t) hp
  rw [e, Nat.add_mod, Nat.mod_eq_of_lt ht]
  split
  · rename_i q
    exact Nat.mod_eq_of_lt q
  · rename_i q
    rw [Nat.mod_eq_sub_mod (by omega)]
    exact Nat.mod_eq_of_lt (by omega)
theorem z_sav_m {s t p b : Nat} (ht : t < p) : z_sav s t p (b + 1) = (z_sav s t p b + t) % p := by
  unfold z_sav
  have e : s + (b + 1) * t = (s + b * t) + t := by rw [Nat.add_mul]; omega
  rw [e, Nat.add_mod, Nat.mod_eq_of_lt ht]
theorem l_setAllC {f : Nat → Int32} {sv : Nat} {F : Nat → Nat → Int32} {len : Nat} {tx : Nat → Int32} {σ : z_S} {Q : Int32 → z_S → Prop} {m s t p : Nat} (hm : m < 10) (ht : t < p) (hs : s < p) (hp : p ≤ 1000000) (hq : ∀ τ, z_IC (z_fsa f m (fun b => nI (z_sav s t p b)) 13) sv F len tx τ → z_mf σ τ → Q (nI (z_sav s t p 12)) τ) : ∀ (d i n : Nat), i + d = 13 → d < n → 1 ≤ i → ∀ τ, z_IC (z_fsa f m (fun b => nI (z_sav s t p b)) i) sv F len tx τ → z_mf σ τ → w_X5_setAll_81 Q n (nI m) (nI t) (nI p) (nI (z_sav s t p (i - 1))) (nI i) τ := by
  refine z_for (W := fun n i => 1 ≤ i → ∀ τ, z_IC (z_fsa f m (fun b => nI (z_sav s t p b)) i) sv F len tx τ → z_mf σ τ → w_X5_setAll_81 Q n (nI m) (nI t) (nI p) (nI (z_sav s t p (i - 1))) (nI i) τ) ?_ ?_
  · intro n _ τ hτ hmf
    show wb_X5_setAll_81 Q (w_X5_setAll_81 Q n) _ _ _ _ _ _
    unfold wb_X5_setAll_81
    exact z_ifp (nI_le (Nat.le_refl 13) (by omega)) (hq τ hτ hmf)
  · intro i n hi ih h1 τ hτ hmf
    have hl : z_sav s t p (i - 1) < p := Nat.mod_lt _ (by omega)
    have key := z_sav_s (s := s) (b := i - 1) ht
    rw [show i - 1 + 1 = i by omega] at key
    refine z_ifn (nI_ge (a := i) (b := 13) (by omega) (by omega)) ?_
    rintro _ rfl
    rw [nI_add]
    have fin : w_X5_setAll_108 (w_X5_setAll_81 Q n) Q (nI m) (nI t) (nI p) (nI (z_sav s t p i)) (nI i) τ := by
      refine ⟨z_vin (by omega) (by omega), z_vin (by omega) (by omega), ?_⟩
      rw [z_tn (by omega), z_tn (by omega)]
      rintro _ rfl _ rfl
      rw [nI_1]
      refine ih (by omega) _ ?_ (z_mf_tr hmf (z_mf_i (by omega)))
      rw [← z_fsa_s]
      exact ic_setr hτ (by omega) hm
    by_cases hlt : z_sav s t p (i - 1) + t < p
    · rw [if_pos hlt] at key
      rw [← key] at hlt ⊢
      exact z_ifp ((nI_ltI (by omega) (by omega)).mpr hlt) fin
    · rw [if_neg hlt] at key
      refine z_ifn (fun q => hlt ((nI_ltI (by omega) (by omega)).mp q)) ?_
      rintro _ rfl
      rw [nI_sub (by omega), ← key]
      exact fin
theorem l_setAllM {f : Nat → Int32} {sv : Nat} {F : Nat → Nat → Int32} {len : Nat} {tx : Nat → Int32} {σ : z_S} {Q : Int32 → z_S → Prop} {m s t d : Nat} (hm : m < 10) (hd : f (4 + 18 * m + 2) = nI d) (h6 : d ≤ 6) (ht : t < 10 ^ d) (hs : s < 10 ^ d) (hq : ∀ τ, z_IM (z_fsa f m (fun b => nI (z_sav s t (10 ^ d) b)) 13) sv F len tx τ → z_cf9 σ τ → Q (nI (z_sav s t (10 ^ d) 12)) τ) : ∀ (k i n : Nat), i + k = 13 → k < n → ∀ τ, z_IM (z_fsa f m (fun b => nI (z_sav s t (10 ^ d) b)) i) sv F len tx τ → z_cf9 σ τ → w_X6_setAll_42 Q n (nI m) (nI t) (nI (z_sav s t (10 ^ d) i)) (nI i) τ := by
  refine z_for (W := fun n i => ∀ τ, z_IM (z_fsa f m (fun b => nI (z_sav s t (10 ^ d) b)) i) sv F len tx τ → z_cf9 σ τ → w_X6_setAll_42 Q n (nI m) (nI t) (nI (z_sav s t (10 ^ d) i)) (nI i) τ) ?_ ?_
  · intro n τ hτ hmf
    show wb_X6_setAll_42 Q (w_X6_setAll_42 Q n) _ _ _ _ _
    unfold wb_X6_setAll_42
    refine z_ifp (nI_le (Nat.le_refl 13) (by omega)) (s_of (c := 17) hτ.2.1 hm (by omega) ?_)
    rw [show 4 + 18 * m + 17 = 9 + 18 * m + 12 by omega, z_fsa_in f _ (by omega)]
    exact hq τ hτ hmf
  · intro i n hi ih τ hτ hmf
    have hp := z_p10 h6
    refine z_ifn (nI_ge (a := i) (b := 13) (by omega) (by omega)) ?_
    rw [show (5 : Int32) + nI i = nI (5 + i) by rw [show (5 : Int32) = nI 5 from rfl, nI_add]]
    refine s_sets hτ hm (by omega) (fun ρ hρ hcf => ?_)
    rw [show 4 + 18 * m + (5 + i) = 9 + 18 * m + i by omega, z_fsa_s f m (fun b => nI (z_sav s t (10 ^ d) b))] at hρ
    refine s_whole hρ.2.1 hm (by rw [z_fsa_ne _ _ (by omega)]; exact hd) h6 ⟨fun q => ?_, ?_⟩
    · have := (nI_eq (b := 0) (by omega) (by omega)).mp q
      omega
    · rintro _ rfl _ rfl
      have hl : z_sav s t (10 ^ d) i < 10 ^ d := Nat.mod_lt _ (by omega)
      rw [nI_add, pk_rem (by omega) (by omega) (by omega), nI_1, ← z_sav_m ht]
      exact ih ρ hρ (z_cf_tr hmf hcf)
theorem op_setAll {σ : z_S} {K : Int32 → Int32 → z_S → Prop} (a b v : Int32) (h : z_Inv σ) (hK : ∀ r σ2, z_Inv σ2 → K r r σ2) : w_X5_setAll a b v σ (fun r σ1 => w_X6_setAll a b v σ1 (fun r2 σ2 => K r r2 σ2)) := by
  obtain ⟨f, c, sv, F, len, tx, hC, hM, hG⟩ := h
  have h10 := hG.1.1
  have hc := hG.1.2.1
  have hcc : zg_i σ 1 0 = nI c := by rw [ic_0 hC.2.1 (by omega)]; exact hc
  rcases z_cas a c with ⟨m, hm, rfl⟩ | hn
  · obtain ⟨-, -, -, d, hd3, hd6, hd, -⟩ := hG.1.2.2.2.2.2.2.2 m hm
    have hp := z_p10 hd6
    rcases z_cas b (10 ^ d) with ⟨s, hs, rfl⟩ | hn2
    · rcases z_cas v (10 ^ d) with ⟨t, ht, rfl⟩ | hn3
      · have e0 : z_sav s t (10 ^ d) 0 = s := by unfold z_sav; rw [Nat.zero_mul]; exact Nat.mod_eq_of_lt hs
        refine z_comb (wC := fun Q => w_X5_setAll (nI m) (nI s) (nI t) σ Q) (wM := fun σ1 Q => w_X6_setAll (nI m) (nI s) (nI t) σ1 Q) (r := nI (z_sav s t (10 ^ d) 12)) hM (z_GD_rec hG (fine_fsa (g := fun b => nI (z_sav s t (10 ^ d) b)) hG.1 hm hd hd6 (fun b _ => ⟨_, Nat.mod_lt _ (by omega), rfl⟩) 13 (Nat.le_refl _))) (fun Q hq => ?_) (fun σ1 h1 Q hq => ?_) hK
        · unfold w_X5_setAll
          refine s_has_y hcc h10 hm (z_ifn (by decide) (s_span hC.2.1 (by omega) hd hd3 hd6 (s_withinn_y (by omega) hs (z_ifn (by decide) (s_withinn_y (by omega) ht (z_ifn (by decide) ?_))))))
          refine push_IC hC (fun τ hτ hmf => ⟨z_vin (by omega) (by omega), z_vin (i := 0) (by omega) (by omega), ?_⟩)
          rw [z_tn (by omega), show (0 : Int32).toNatClampNeg = 0 from rfl]
          rintro _ rfl
          have := l_setAllC (f := f) (sv := min sv 4 + 1) (F := z_F1 f sv F) (len := len) (tx := tx) (σ := σ) (Q := Q) (by omega : m < 10) ht hs hp hq 12 1 400 (by omega) (by omega) (by omega) (zs_i τ (8 + m) 0 (nI s)) ?_ (z_mf_tr hmf (z_mf_i (by omega)))
          · rw [show 1 - 1 = 0 by omega, e0] at this
            exact this
          · rw [← z_fsa_s]
            have e1 : z_fsa f m (fun b => nI (z_sav s t (10 ^ d) b)) 0 = f := funext fun x => (z_fsa_0 f m _ x).symm
            rw [e1]
            show z_IC (z_fup f _ (nI (z_sav s t (10 ^ d) 0))) _ _ _ _ _
            rw [e0]
            exact ic_setr hτ (by omega) (by omega)
        · unfold w_X6_setAll
          refine s_isMeter_y h1.2.1 hc h10 hm (z_ifn (by decide) (s_isReading_y h1.2.1 (by omega) hd hd6 hs (z_ifn (by decide) (s_isReading_y h1.2.1 (by omega) hd hd6 ht (z_ifn (by decide) (saves_IM hG.2.1 h1 (fun τ hτ hcf => ?_)))))))
          have := l_setAllM (f := f) (sv := min sv 4 + 1) (F := z_F1 f sv F) (len := len) (tx := tx) (σ := σ1) (Q := Q) (by omega : m < 10) hd hd6 ht hs hq 13 0 400 (by omega) (by omega) τ (z_IM_ext hτ (fun x _ => z_fsa_0 f m _ x)) hcf
          rw [e0] at this
          exact this
      · refine z_comb (wC := fun Q => w_X5_setAll (nI m) (nI s) v σ Q) (wM := fun σ1 Q => w_X6_setAll (nI m) (nI s) v σ1 Q) (r := -2000000002) hM hG (fun Q hq => ?_) (fun σ1 h1 Q hq => ?_) hK
        · unfold w_X5_setAll
          exact s_has_y hcc h10 hm (z_ifn (by decide) (s_span hC.2.1 (by omega) hd hd3 hd6 (s_withinn_y (by omega) hs (z_ifn (by decide) (s_withinn_n (by omega) (z_p10p d) hn3 (z_ifp rfl (hq σ hC (z_mf_rfl σ))))))))
        · unfold w_X6_setAll
          exact s_isMeter_y h1.2.1 hc h10 hm (z_ifn (by decide) (s_isReading_y h1.2.1 (by omega) hd hd6 hs (z_ifn (by decide) (s_isReading_n h1.2.1 (by omega) hd hd6 hn3 (z_ifp rfl (hq σ1 h1 (z_cf_rfl σ1)))))))
    · refine z_comb (wC := fun Q => w_X5_setAll (nI m) b v σ Q) (wM := fun σ1 Q => w_X6_setAll (nI m) b v σ1 Q) (r := -2000000002) hM hG (fun Q hq => ?_) (fun σ1 h1 Q hq => ?_) hK
      · unfold w_X5_setAll
        exact s_has_y hcc h10 hm (z_ifn (by decide) (s_span hC.2.1 (by omega) hd hd3 hd6 (s_withinn_n (by omega) (z_p10p d) hn2 (z_ifp rfl (hq σ hC (z_mf_rfl σ))))))
      · unfold w_X6_setAll
        exact s_isMeter_y h1.2.1 hc h10 hm (z_ifn (by decide) (s_isReading_n h1.2.1 (by omega) hd hd6 hn2 (z_ifp rfl (hq σ1 h1 (z_cf_rfl σ1)))))
  · refine z_comb (wC := fun Q => w_X5_setAll a b v σ Q) (wM := fun σ1 Q => w_X6_setAll a b v σ1 Q) (r := -2000000001) hM hG (fun Q hq => ?_) (fun σ1 h1 Q hq => ?_) hK
    · unfold w_X5_setAll
      exact s_has_n hcc h10 hn (z_ifp rfl (hq σ hC (z_mf_rfl σ)))
    · unfold w_X6_setAll
      exact s_isMeter_n h1.2.1 hc h10 hn (z_ifp rfl (hq σ1 h1 (z_cf_rfl σ1)))
