/-! the history: copies of a state, on both sides -/
/-- the j-th state of the reference's row -/
def zm (σ : z_S) (j : Nat) : Nat → Int32 := fun x => zg_i σ 74 (264 * j + x)
theorem zm_cp {σ : z_S} {a b j x : Nat} (hx : x < 264) : zm (zs_cp σ a b 264) j x = if j = b then zm σ a x else zm σ j x := by
  unfold zm
  rw [zs_cp_i]
  by_cases h : j = b
  · subst h
    rw [if_pos rfl, if_pos (by omega), Nat.add_sub_cancel_left]
  · rw [if_neg h, if_neg (by omega)]
theorem zm_73 {σ : z_S} {y : Nat} {v : Int32} {j : Nat} : zm (zs_i σ 73 y v) j = zm σ j := by
  funext x
  unfold zm
  rw [zg_i_si, if_neg (by omega)]
theorem zs_cp_ne {σ : z_S} {a b i p : Nat} (h : p ≠ 74) : zg_i (zs_cp σ a b i) p = zg_i σ p := by
  funext x
  rw [zs_cp_i, if_neg (by omega)]
theorem zs_i_ne {σ : z_S} {k j : Nat} {v : Int32} {p : Nat} (h : p ≠ k) : zg_i (zs_i σ k j v) p = zg_i σ p := by
  funext x
  rw [zg_i_si, if_neg (fun q => h q.1)]
theorem zs_i_nej {σ : z_S} {k j : Nat} {v : Int32} {p x : Nat} (h : x ≠ j) : zg_i (zs_i σ k j v) p x = zg_i σ p x := by
  rw [zg_i_si, if_neg (fun q => h q.2)]
theorem zs_i_at {σ : z_S} {k j : Nat} {v : Int32} : zg_i (zs_i σ k j v) k j = v := by rw [zg_i_si, if_pos ⟨rfl, rfl⟩]
/-- what 'saves' does -/
def z_saved (σ : z_S) (sv : Nat) (τ : z_S) : Prop :=
  (∀ x, x < 264 → zm τ 0 x = zm σ 0 x) ∧ (∀ j x, x < 264 → 1 ≤ j → j < min sv 4 + 1 → zm τ j x = zm σ (if sv = 5 then j + 1 else j) x) ∧ (∀ x, x < 264 → zm τ (min sv 4 + 1) x = zm σ 0 x) ∧ zg_i τ 73 1 = nI (min sv 4 + 1) ∧ (∀ x, x ≠ 1 → zg_i τ 73 x = zg_i σ 73 x) ∧ (∀ p, p ≠ 73 → p ≠ 74 → zg_i τ p = zg_i σ p) ∧ τ.2 = σ.2
theorem s_saves {σ : z_S} {Q : z_S → Prop} {sv : Nat} (h : zg_i σ 73 1 = nI sv) (hs : sv ≤ 5) (hq : ∀ τ, z_saved σ sv τ → Q τ) : w_X6_saves σ Q := by
  unfold w_X6_saves
  show wb_X6_saves_2 Q (w_X6_saves_2 Q 399) 1 σ
  unfold wb_X6_saves_2
  refine z_ifn (by decide) ?_
  by_cases h5 : sv = 5
  · subst h5
    refine z_ifp (by rw [h]; rfl) ?_
    refine s_copies (a := 2) (b := 1) (by omega) (by omega) ?_
    rintro _ rfl
    show wb_X6_saves_2 Q (w_X6_saves_2 Q 398) 2 _
    unfold wb_X6_saves_2
    refine z_ifn (by decide) (z_ifp (by rw [zs_cp_ne (by decide), h]; rfl) ?_)
    refine s_copies (a := 3) (b := 2) (by omega) (by omega) ?_
    rintro _ rfl
    show wb_X6_saves_2 Q (w_X6_saves_2 Q 397) 3 _
    unfold wb_X6_saves_2
    refine z_ifn (by decide) (z_ifp (by rw [zs_cp_ne (by decide), zs_cp_ne (by decide), h]; rfl) ?_)
    refine s_copies (a := 4) (b := 3) (by omega) (by omega) ?_
    rintro _ rfl
    show wb_X6_saves_2 Q (w_X6_saves_2 Q 396) 4 _
    unfold wb_X6_saves_2
    refine z_ifn (by decide) (z_ifp (by rw [zs_cp_ne (by decide), zs_cp_ne (by decide), zs_cp_ne (by decide), h]; rfl) ?_)
    refine s_copies (a := 5) (b := 4) (by omega) (by omega) ?_
    rintro _ rfl
    show wb_X6_saves_2 Q (w_X6_saves_2 Q 395) 5 _
    unfold wb_X6_saves_2
    refine z_ifp (by decide) ?_
    generalize hτ : zs_cp (zs_cp (zs_cp (zs_cp σ 2 1 264) 3 2 264) 4 3 264) 5 4 264 = τ
    have h73 : zg_i τ 73 = zg_i σ 73 := by rw [← hτ, zs_cp_ne (by decide), zs_cp_ne (by decide), zs_cp_ne (by decide), zs_cp_ne (by decide)]
    unfold w_X6_saves_29
    refine z_ifp (by rw [h73, h]; rfl) ?_
    unfold w_X6_saves_47
    rintro _ rfl _ rfl
    have hv : zg_i (zs_i (zs_i τ 73 1 (zg_i τ 73 1 - 1)) 73 1 (zg_i (zs_i τ 73 1 (zg_i τ 73 1 - 1)) 73 1 + 1)) 73 1 = nI 5 := by
      rw [zs_i_at, zs_i_at, h73, h]
      decide
    rw [hv]
    refine s_copies (a := 0) (b := 5) (by omega) (by omega) (hq _ ?_)
    have hm : ∀ j x, x < 264 → zm τ j x = if j = 4 then zm σ 5 x else if j = 3 then zm σ 4 x else if j = 2 then zm σ 3 x else if j = 1 then zm σ 2 x else zm σ j x := by
      intro j x hx
      rw [← hτ]
      simp only [zm_cp hx]
      simp
    refine ⟨fun x hx => ?_, fun j x hx h1 h2 => ?_, fun x hx => ?_, ?_, fun x hx => ?_, fun p hp hp2 => ?_, ?_⟩
    · rw [zm_cp hx, if_neg (by decide), zm_73, zm_73, hm _ _ hx]
      simp
    · have h2 : j < 5 := h2
      rw [zm_cp hx, if_neg (by omega), zm_73, zm_73, hm _ _ hx, if_pos rfl]
      rcases (show j = 1 ∨ j = 2 ∨ j = 3 ∨ j = 4 by omega) with rfl | rfl | rfl | rfl <;> rfl
    · show zm _ 5 x = _
      rw [zm_cp hx, if_pos rfl, zm_73, zm_73, hm _ _ hx]
      simp
    · rw [zs_cp_ne (by decide), hv]
      rfl
    · rw [zs_cp_ne (by decide), zs_i_nej hx, zs_i_nej hx, h73]
    · rw [zs_cp_ne hp2, zs_i_ne hp, zs_i_ne hp, ← hτ, zs_cp_ne hp2, zs_cp_ne hp2, zs_cp_ne hp2, zs_cp_ne hp2]
    · show τ.2 = σ.2
      rw [← hτ]
      rfl
  · have hm4 : min sv 4 = sv := by omega
    refine z_ifn (by rw [h]; exact fun q => h5 ((nI_eq (by omega) (by decide : 5 < 2 ^ 31)).mp q)) ?_
    unfold w_X6_saves_29
    refine z_ifn (by rw [h]; exact fun q => h5 ((nI_eq (by omega) (by decide : 5 < 2 ^ 31)).mp q)) ?_
    unfold w_X6_saves_47
    rintro _ rfl _ rfl
    have hv : zg_i (zs_i (zs_i σ 73 1 (zg_i σ 73 1 - 0)) 73 1 (zg_i (zs_i σ 73 1 (zg_i σ 73 1 - 0)) 73 1 + 1)) 73 1 = nI (sv + 1) := by
      rw [zs_i_at, zs_i_at, h, Int32.sub_zero]
      exact nI_1 sv
    rw [hv]
    refine s_copies (a := 0) (b := sv + 1) (by omega) (by omega) (hq _ ?_)
    refine ⟨fun x hx => ?_, fun j x hx h1 h2 => ?_, fun x hx => ?_, ?_, fun x hx => ?_, fun p hp hp2 => ?_, rfl⟩
    · rw [zm_cp hx, if_neg (by omega), zm_73, zm_73]
    · rw [zm_cp hx, if_neg (by omega), zm_73, zm_73, if_neg h5]
    · rw [hm4, zm_cp hx, if_pos rfl, zm_73, zm_73]
    · rw [zs_cp_ne (by decide), hv, hm4]
    · rw [zs_cp_ne (by decide), zs_i_nej hx, zs_i_nej hx]
    · rw [zs_cp_ne hp2, zs_i_ne hp, zs_i_ne hp]
/-- the first t places of the block at k1 hold what the block at k2 held -/
def z_ln (j : Nat) : Nat := if j = 0 then 4 else if (z_sh (1 + j)).1 = 10 then (z_sh (1 + j)).2 else 0
def z_cpd (σ : z_S) (k1 k2 t : Nat) (τ : z_S) : Prop := (∀ j i, j < t → i < z_ln j → zg_i τ (k1 + j) i = zg_i σ (k2 + j) i) ∧ (∀ p, ¬ (k1 ≤ p ∧ p < k1 + t) → zg_i τ p = zg_i σ p) ∧ τ.2 = σ.2
theorem z_cpd_s {σ τ : z_S} {k1 k2 t n : Nat} (hd : k1 + 26 ≤ k2 ∨ k2 + 26 ≤ k1) (ht : t < 26) (hn : z_ln t = n) (h : z_cpd σ k1 k2 t τ) : z_cpd σ k1 k2 (t + 1) (zs_row τ (k1 + t) (va_cpy (zg_i τ (k2 + t)) (zg_i τ (k1 + t)) 0 0 n)) := by
  obtain ⟨h1, h2, h3⟩ := h
  refine ⟨fun j i hj hi => ?_, fun p hp => ?_, h3⟩
  · rw [zg_i_row]
    by_cases e : j = t
    · subst e
      rw [if_pos rfl]
      unfold va_cpy
      rw [if_pos (by omega), h2 _ (by omega)]
      simp
    · rw [if_neg (by omega)]
      exact h1 j i (by omega) hi
  · funext x
    rw [zg_i_row, if_neg (by omega), h2 p (by omega)]
theorem z_cpd_e {σ τ : z_S} {k1 k2 t : Nat} (hn : z_ln t = 0) (h : z_cpd σ k1 k2 t τ) : z_cpd σ k1 k2 (t + 1) τ := by
  obtain ⟨h1, h2, h3⟩ := h
  refine ⟨fun j i hj hi => ?_, fun p hp => h2 p (by omega), h3⟩
  by_cases e : j = t
  · subst e
    omega
  · exact h1 j i (by omega) hi
theorem l_copyFrom2 {σ : z_S} {Q : z_S → Prop} {k1 k2 : Nat} (hb1 : z_blk k1 σ) (hb2 : z_blk k2 σ) (hd : k1 + 26 ≤ k2 ∨ k2 + 26 ≤ k1) (hq : ∀ τ, z_cpd σ k1 k2 26 τ → Q τ) : ∀ (d i n : Nat) (τ : z_S), i + d = 8 → d < n → z_cpd σ k1 k2 (18 + i) τ → w_X4_copyFrom_142 Q n k1 k2 (nI i) τ := by
  intro d
  induction d with
  | zero =>
    intro i n τ hi hn h
    obtain ⟨n, rfl⟩ : ∃ k, n = k + 1 := ⟨n - 1, by omega⟩
    obtain rfl : i = 8 := by omega
    show wb_X4_copyFrom_142 Q (w_X4_copyFrom_142 Q n) k1 k2 (nI 8) τ
    unfold wb_X4_copyFrom_142
    exact ⟨⟨z_blk_eq hb1 (by unfold zg_n; rw [h.2.2]), z_blk_eq hb2 (by unfold zg_n; rw [h.2.2])⟩, z_ifp (by decide) (hq τ h)⟩
  | succ d ih =>
    intro i n τ hi hn h
    obtain ⟨n, rfl⟩ : ∃ k, n = k + 1 := ⟨n - 1, by omega⟩
    show wb_X4_copyFrom_142 Q (w_X4_copyFrom_142 Q n) k1 k2 (nI i) τ
    unfold wb_X4_copyFrom_142
    refine ⟨⟨z_blk_eq hb1 (by unfold zg_n; rw [h.2.2]), z_blk_eq hb2 (by unfold zg_n; rw [h.2.2])⟩, z_ifn (nI_ge (a := i) (b := 8) (by omega) (by omega)) ⟨z_vin (by omega) (by omega), z_vin (by omega) (by omega), ?_⟩⟩
    rintro _ rfl _ rfl
    rw [z_tn (by omega), show nI i + (1 : Int32) = nI (i + 1) from nI_1 i]
    refine ih (i + 1) n _ (by omega) (by omega) ?_
    have hl : z_ln (17 + 1 + i) = 10 := (show ∀ i, i < 8 → z_ln (17 + 1 + i) = 10 by decide +kernel) i (by omega)
    rw [show 18 + (i + 1) = 17 + 1 + i + 1 by omega]
    exact z_cpd_s hd (by omega) hl (by rw [show 17 + 1 + i = 18 + i by omega]; exact h)
theorem l_copyFrom1 {σ : z_S} {Q : z_S → Prop} {k1 k2 : Nat} (hb1 : z_blk k1 σ) (hb2 : z_blk k2 σ) (hd : k1 + 26 ≤ k2 ∨ k2 + 26 ≤ k1) (hq : ∀ τ, z_cpd σ k1 k2 26 τ → Q τ) : ∀ (d i n : Nat) (τ : z_S), i + d = 10 → d < n → z_cpd σ k1 k2 (7 + i) τ → w_X4_copyFrom_109 Q n k1 k2 (nI i) τ := by
  intro d
  induction d with
  | zero =>
    intro i n τ hi hn h
    obtain ⟨n, rfl⟩ : ∃ k, n = k + 1 := ⟨n - 1, by omega⟩
    obtain rfl : i = 10 := by omega
    show wb_X4_copyFrom_109 Q (w_X4_copyFrom_109 Q n) k1 k2 (nI 10) τ
    unfold wb_X4_copyFrom_109
    exact ⟨⟨z_blk_eq hb1 (by unfold zg_n; rw [h.2.2]), z_blk_eq hb2 (by unfold zg_n; rw [h.2.2])⟩, z_ifp (by decide) (l_copyFrom2 hb1 hb2 hd hq 8 0 400 τ (by omega) (by omega) (z_cpd_e (by decide +kernel) h))⟩
  | succ d ih =>
    intro i n τ hi hn h
    obtain ⟨n, rfl⟩ : ∃ k, n = k + 1 := ⟨n - 1, by omega⟩
    show wb_X4_copyFrom_109 Q (w_X4_copyFrom_109 Q n) k1 k2 (nI i) τ
    unfold wb_X4_copyFrom_109
    refine ⟨⟨z_blk_eq hb1 (by unfold zg_n; rw [h.2.2]), z_blk_eq hb2 (by unfold zg_n; rw [h.2.2])⟩, z_ifn (nI_ge (a := i) (b := 10) (by omega) (by omega)) ⟨z_vin (by omega) (by omega), z_vin (by omega) (by omega), ?_⟩⟩
    rintro _ rfl _ rfl
    rw [z_tn (by omega), show nI i + (1 : Int32) = nI (i + 1) from nI_1 i]
    refine ih (i + 1) n _ (by omega) (by omega) ?_
    have hl : z_ln (6 + 1 + i) = 13 := (show ∀ i, i < 10 → z_ln (6 + 1 + i) = 13 by decide +kernel) i (by omega)
    rw [show 7 + (i + 1) = 6 + 1 + i + 1 by omega]
    exact z_cpd_s hd (by omega) hl (by rw [show 6 + 1 + i = 7 + i by omega]; exact h)
theorem s_copyFrom {σ : z_S} {Q : z_S → Prop} {k1 k2 : Nat} (hb1 : z_blk k1 σ) (hb2 : z_blk k2 σ) (hd : k1 + 26 ≤ k2 ∨ k2 + 26 ≤ k1) (hq : ∀ τ, z_cpd σ k1 k2 26 τ → Q τ) : w_X4_copyFrom k1 k2 σ Q := by
  unfold w_X4_copyFrom
  refine ⟨⟨hb1, hb2⟩, ?_⟩
  rintro _ rfl _ rfl _ rfl _ rfl
  have h0 : z_cpd σ k1 k2 1 (zs_i (zs_i (zs_i (zs_i σ k1 0 (zg_i σ k2 0)) k1 1 (zg_i (zs_i σ k1 0 (zg_i σ k2 0)) k2 1)) k1 2 (zg_i (zs_i (zs_i σ k1 0 (zg_i σ k2 0)) k1 1 (zg_i (zs_i σ k1 0 (zg_i σ k2 0)) k2 1)) k2 2)) k1 3 (zg_i (zs_i (zs_i (zs_i σ k1 0 (zg_i σ k2 0)) k1 1 (zg_i (zs_i σ k1 0 (zg_i σ k2 0)) k2 1)) k1 2 (zg_i (zs_i (zs_i σ k1 0 (zg_i σ k2 0)) k1 1 (zg_i (zs_i σ k1 0 (zg_i σ k2 0)) k2 1)) k2 2)) k2 3)) := by
    have hne : k2 ≠ k1 := by omega
    refine ⟨fun j i hj hi => ?_, fun p hp => ?_, rfl⟩
    · obtain rfl : j = 0 := by omega
      have hi : i < 4 := hi
      simp only [Nat.add_zero]
      rw [zs_i_ne hne, zs_i_ne hne, zs_i_ne hne]
      rcases (show i = 0 ∨ i = 1 ∨ i = 2 ∨ i = 3 by omega) with rfl | rfl | rfl | rfl <;> simp [zg_i_si]
    · have hp : p ≠ k1 := by omega
      rw [zs_i_ne hp, zs_i_ne hp, zs_i_ne hp, zs_i_ne hp]
  generalize zs_i (zs_i (zs_i (zs_i σ k1 0 _) k1 1 _) k1 2 _) k1 3 _ = τ at h0 ⊢
  rintro _ rfl _ rfl _ rfl _ rfl _ rfl
  exact l_copyFrom1 hb1 hb2 hd hq 10 0 400 _ (by omega) (by omega) (z_cpd_e (by decide +kernel) (z_cpd_s hd (by omega) (by decide +kernel) (z_cpd_s hd (by omega) (by decide +kernel) (z_cpd_s hd (by omega) (by decide +kernel) (z_cpd_s hd (by omega) (by decide +kernel) (z_cpd_s hd (by omega) (by decide +kernel) h0))))))
