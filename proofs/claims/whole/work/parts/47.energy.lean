/-! quality and energy -/
def z_vo (f : Nat → Int32) (m i : Nat) : Int32 := z_A f m i (i + 1) * f (4 + 18 * m + 1)
def z_fs (f : Nat → Int32) (m : Nat) : Nat → Nat
  | 0 => 0
  | s + 1 => if z_St f m s = 0 then s + 1 else z_fs f m s
def z_ls (f : Nat → Int32) (m : Nat) : Nat → Nat → Nat
  | 0, i => i
  | d + 1, i => if z_St f m (i + 1) = 0 then i else z_ls f m d (i + 1)
def z_am (f : Nat → Int32) (m : Nat) : Nat → Nat → Bool
  | 0, _ => true
  | d + 1, k => if z_St f m k = 1 then z_am f m d (k + 1) else false
def z_Qr (f : Nat → Int32) (m s e : Nat) : Int32 := if z_am f m (e + 1 - s) s = true ∧ z_A f m s (e + 1) ≠ zNONE ∧ ¬ (f (4 + 18 * m + 3) * nI (e + 1 - s) < z_A f m s (e + 1)) then 1 else if 0 < s then (if e < 11 then 2 else 3) else if e < 11 then 3 else 4
def z_sg (t n : Int32) (k : Nat) : Int32 := if t - t / n * n ≤ nI k then t / n + 0 else t / n + 1
def z_Er (f : Nat → Int32) (m s e i : Nat) : Int32 := if z_Qr f m s e = 1 then z_sg (z_A f m s (e + 1) * f (4 + 18 * m + 1)) (nI (e + 1 - s)) (i - s) else if z_Qr f m s e = 2 then (z_vo f m (s - 1) * nI (e + 1 - i) + z_vo f m (e + 1) * nI (i - s + 1)) / nI (e + 2 - s) else if z_Qr f m s e = 3 then (if 0 < s then z_vo f m (s - 1) else z_vo f m (e + 1)) else 0
def z_ql (f : Nat → Int32) (m i : Nat) : Int32 := if z_St f m i = 0 then 0 else z_Qr f m (z_fs f m i) (z_ls f m (11 - i) i)
def z_en (f : Nat → Int32) (m i : Nat) : Int32 := if z_St f m i = 0 then z_vo f m i else z_Er f m (z_fs f m i) (z_ls f m (11 - i) i) i
def z_run (f : Nat → Int32) (m s e : Nat) : Prop := s ≤ e ∧ e ≤ 11 ∧ (∀ k, s ≤ k → k ≤ e → z_St f m k ≠ 0) ∧ (0 < s → z_St f m (s - 1) = 0) ∧ (e < 11 → z_St f m (e + 1) = 0)
theorem run_fs {f : Nat → Int32} {m s e : Nat} (h : z_run f m s e) : ∀ i, s ≤ i → i ≤ e → z_fs f m i = s := by
  obtain ⟨h1, h2, h3, h4, h5⟩ := h
  intro i
  induction i with
  | zero =>
    intro a b
    obtain rfl : s = 0 := by omega
    rfl
  | succ i ih =>
    intro a b
    unfold z_fs
    by_cases e1 : s = i + 1
    · subst e1
      rw [if_pos (show z_St f m i = 0 from h4 (by omega))]
    · rw [if_neg (h3 i (by omega) (by omega))]
      exact ih (by omega) (by omega)
theorem run_ls {f : Nat → Int32} {m s e : Nat} (h : z_run f m s e) : ∀ d i, i + d = 11 → s ≤ i → i ≤ e → z_ls f m d i = e := by
  obtain ⟨h1, h2, h3, h4, h5⟩ := h
  intro d
  induction d with
  | zero =>
    intro i a b g
    obtain rfl : i = e := by omega
    rfl
  | succ d ih =>
    intro i a b g
    unfold z_ls
    by_cases e1 : i = e
    · subst e1
      rw [if_pos (h5 (by omega))]
    · rw [if_neg (h3 (i + 1) (by omega) (by omega))]
      exact ih (i + 1) (by omega) (by omega) (by omega)
theorem z_fs_p (f : Nat → Int32) (m : Nat) : ∀ i, z_fs f m i ≤ i ∧ (0 < z_fs f m i → z_St f m (z_fs f m i - 1) = 0) ∧ ∀ k, z_fs f m i ≤ k → k < i → z_St f m k ≠ 0 := by
  intro i
  induction i with
  | zero => exact ⟨Nat.le_refl _, fun h => absurd h (Nat.lt_irrefl 0), fun k _ h => absurd h (Nat.not_lt_zero k)⟩
  | succ i ih =>
    unfold z_fs
    by_cases e : z_St f m i = 0
    · rw [if_pos e]
      exact ⟨Nat.le_refl _, fun _ => e, fun k a b => absurd a (by omega)⟩
    · rw [if_neg e]
      refine ⟨by omega, ih.2.1, fun k a b => ?_⟩
      by_cases e1 : k = i
      · subst e1
        exact e
      · exact ih.2.2 k a (by omega)
theorem z_ls_p (f : Nat → Int32) (m : Nat) : ∀ d i, i ≤ z_ls f m d i ∧ z_ls f m d i ≤ i + d ∧ (z_ls f m d i < i + d → z_St f m (z_ls f m d i + 1) = 0) ∧ ∀ k, i < k → k ≤ z_ls f m d i → z_St f m k ≠ 0 := by
  intro d
  induction d with
  | zero =>
    intro i
    show i ≤ i ∧ i ≤ i + 0 ∧ (i < i + 0 → _) ∧ _
    exact ⟨Nat.le_refl _, Nat.le_refl _, fun h => absurd h (Nat.lt_irrefl i), fun k a b => absurd b (Nat.not_le.mpr a)⟩
  | succ d ih =>
    intro i
    unfold z_ls
    by_cases e : z_St f m (i + 1) = 0
    · rw [if_pos e]
      exact ⟨Nat.le_refl _, by omega, fun _ => e, fun k a b => absurd a (by omega)⟩
    · rw [if_neg e]
      obtain ⟨a1, a2, a3, a4⟩ := ih (i + 1)
      refine ⟨by omega, by omega, fun h => a3 (by omega), fun k a b => ?_⟩
      by_cases e1 : k = i + 1
      · subst e1
        exact e
      · exact a4 k (by omega) b
theorem z_run_of {f : Nat → Int32} {m i : Nat} (hi : i < 12) (h : z_St f m i ≠ 0) : z_run f m (z_fs f m i) (z_ls f m (11 - i) i) := by
  obtain ⟨a1, a2, a3⟩ := z_fs_p f m i
  obtain ⟨b1, b2, b3, b4⟩ := z_ls_p f m (11 - i) i
  refine ⟨by omega, by omega, fun k k1 k2 => ?_, a2, fun h => b3 (by omega)⟩
  rcases Nat.lt_trichotomy k i with e | e | e
  · exact a3 k k1 e
  · subst e
    exact h
  · exact b4 k e k2
/-! the reference -/
theorem rm_valid {f : Nat → Int32} {c m i : Nat} {σ : z_S} {Q : Int32 → z_S → Prop} (h : z_rm f c σ) (hm : m < c) (hi : i < 12) (hq : Q (if z_St f m i = 0 then 1 else 0) σ) : w_X6_isValid (nI m) (nI i) σ Q := by
  unfold w_X6_isValid
  exact s_in_y (lo := 0) (hi := 11) (by omega) (by omega) (by omega) (z_ifn (by decide) (rm_status h hm hi (z_iteQ hq (fun _ hq => ⟨Or.inr rfl, hq⟩) (fun _ hq => ⟨Or.inl rfl, hq⟩))))
theorem rm_valid_n {σ : z_S} {Q : Int32 → z_S → Prop} {m x : Int32} (hx : ∀ i, i < 12 → x ≠ nI i) (hq : Q 0 σ) : w_X6_isValid m x σ Q := by
  unfold w_X6_isValid
  exact s_in_n (lo := 0) (hi := 11) (by omega) (by omega) (fun i _ g => hx i (by omega)) (z_ifp rfl ⟨Or.inl rfl, hq⟩)
theorem rm_vo {f : Nat → Int32} {c m i : Nat} {σ : z_S} {Q : Int32 → z_S → Prop} (h : z_rm f c σ) (hm : m < c) (hi : i < 12) (hq : Q (z_vo f m i) σ) : w_X6_validOf (nI m) (nI i) σ Q := by
  unfold w_X6_validOf
  exact rm_raw h hm hi (rm_of (k := 1) h hm (by omega) hq)
theorem l_first {f : Nat → Int32} {c m : Nat} {σ : z_S} {Q : Int32 → z_S → Prop} (h : z_rm f c σ) (hm : m < c) : ∀ i n, i < 12 → i < n → Q (nI (z_fs f m i)) σ → w_X6_first_2 Q n (nI m) (nI i) σ := by
  intro i
  induction i with
  | zero =>
    intro n hi hn hq
    obtain ⟨n, rfl⟩ : ∃ k, n = k + 1 := ⟨n - 1, by omega⟩
    show wb_X6_first_2 Q (w_X6_first_2 Q n) _ _ _
    unfold wb_X6_first_2
    exact z_ifp (by decide) hq
  | succ i ih =>
    intro n hi hn hq
    obtain ⟨n, rfl⟩ : ∃ k, n = k + 1 := ⟨n - 1, by omega⟩
    show wb_X6_first_2 Q (w_X6_first_2 Q n) _ _ _
    unfold wb_X6_first_2
    rw [show nI (i + 1) - (1 : Int32) = nI i from nI_pred i]
    refine z_ifn (nI_ge (a := 0) (b := i + 1) (by omega) (by omega)) (rm_valid h hm (by omega) ?_)
    unfold z_fs at hq
    by_cases e : z_St f m i = 0
    · rw [if_pos e] at hq ⊢
      exact z_ifn (by decide) hq
    · rw [if_neg e] at hq ⊢
      refine z_ifp rfl ?_
      rintro _ rfl
      rw [show nI (i + 1) + (-1 : Int32) = nI i by rw [← nI_pred i, Int32.sub_eq_add_neg]]
      exact ih n (by omega) (by omega) hq
theorem rm_first {f : Nat → Int32} {c m i : Nat} {σ : z_S} {Q : Int32 → z_S → Prop} (h : z_rm f c σ) (hm : m < c) (hi : i < 12) (hq : Q (nI (z_fs f m i)) σ) : w_X6_first (nI m) (nI i) σ Q := l_first h hm i 400 hi (by omega) hq
theorem l_last {f : Nat → Int32} {c m : Nat} {σ : z_S} {Q : Int32 → z_S → Prop} (h : z_rm f c σ) (hm : m < c) : ∀ d i n, i + d = 11 → d < n → Q (nI (z_ls f m d i)) σ → w_X6_last_2 Q n (nI m) (nI i) σ := by
  intro d
  induction d with
  | zero =>
    intro i n hi hn hq
    obtain ⟨n, rfl⟩ : ∃ k, n = k + 1 := ⟨n - 1, by omega⟩
    obtain rfl : i = 11 := by omega
    show wb_X6_last_2 Q (w_X6_last_2 Q n) _ _ _
    unfold wb_X6_last_2
    exact z_ifp (by decide) hq
  | succ d ih =>
    intro i n hi hn hq
    obtain ⟨n, rfl⟩ : ∃ k, n = k + 1 := ⟨n - 1, by omega⟩
    show wb_X6_last_2 Q (w_X6_last_2 Q n) _ _ _
    unfold wb_X6_last_2
    rw [nI_1]
    refine z_ifn (nI_ge (a := i) (b := 11) (by omega) (by omega)) (rm_valid h hm (by omega) ?_)
    unfold z_ls at hq
    by_cases e : z_St f m (i + 1) = 0
    · rw [if_pos e] at hq ⊢
      exact z_ifn (by decide) hq
    · rw [if_neg e] at hq ⊢
      refine z_ifp rfl ?_
      rintro _ rfl
      exact ih (i + 1) n (by omega) (by omega) hq
theorem rm_last {f : Nat → Int32} {c m i : Nat} {σ : z_S} {Q : Int32 → z_S → Prop} (h : z_rm f c σ) (hm : m < c) (hi : i < 12) (hq : Q (nI (z_ls f m (11 - i) i)) σ) : w_X6_last (nI m) (nI i) σ Q := l_last h hm (11 - i) i 400 (by omega) (by omega) hq
/-- the test loop; T: what comes behind it -/
theorem l_am0 {f : Nat → Int32} {m s e : Nat} {σ : z_S} {Q : Int32 → z_S → Prop} (he : e < 12) (hT : ∀ n, w_X6_qualityOf_32 Q (n + 1) (nI m) (nI s) (nI e) 0 (nI (e + 1)) σ) : ∀ d k n, k + d = e + 1 → d < n → w_X6_qualityOf_32 Q n (nI m) (nI s) (nI e) 0 (nI k) σ := by
  intro d
  induction d with
  | zero =>
    intro k n hk hn
    obtain ⟨n, rfl⟩ : ∃ k, n = k + 1 := ⟨n - 1, by omega⟩
    obtain rfl : k = e + 1 := by omega
    exact hT n
  | succ d ih =>
    intro k n hk hn
    obtain ⟨n, rfl⟩ : ∃ k, n = k + 1 := ⟨n - 1, by omega⟩
    show wb_X6_qualityOf_32 Q (w_X6_qualityOf_32 Q n) _ _ _ _ _ _
    unfold wb_X6_qualityOf_32
    refine z_ifn (nI_nlt (by omega) (by omega)) (z_ifp rfl ?_)
    rintro _ rfl
    rw [nI_1]
    exact ih (k + 1) n (by omega) (by omega)
theorem l_am1 {f : Nat → Int32} {c m s e : Nat} {σ : z_S} {Q : Int32 → z_S → Prop} (h : z_rm f c σ) (hm : m < c) (he : e < 12) : ∀ d k n, k + d = e + 1 → d < n → (∀ n, w_X6_qualityOf_32 Q (n + 1) (nI m) (nI s) (nI e) (if z_am f m d k = true then 1 else 0) (nI (e + 1)) σ) → w_X6_qualityOf_32 Q n (nI m) (nI s) (nI e) 1 (nI k) σ := by
  intro d
  induction d with
  | zero =>
    intro k n hk hn hT
    obtain ⟨n, rfl⟩ : ∃ k, n = k + 1 := ⟨n - 1, by omega⟩
    obtain rfl : k = e + 1 := by omega
    exact hT n
  | succ d ih =>
    intro k n hk hn hT
    obtain ⟨n, rfl⟩ : ∃ k, n = k + 1 := ⟨n - 1, by omega⟩
    show wb_X6_qualityOf_32 Q (w_X6_qualityOf_32 Q n) _ _ _ _ _ _
    unfold wb_X6_qualityOf_32
    refine z_ifn (nI_nlt (by omega) (by omega)) (z_ifn (by decide) (rm_status h hm (by omega) ?_))
    unfold z_am at hT
    by_cases e1 : z_St f m k = 1
    · rw [if_pos e1] at hT
      refine z_ifp e1 ?_
      rintro _ rfl
      rw [nI_1]
      exact ih (k + 1) n (by omega) (by omega) hT
    · rw [if_neg e1, if_neg (by decide)] at hT
      refine z_ifn e1 ?_
      rintro _ rfl
      rw [nI_1]
      exact l_am0 (f := f) he hT d (k + 1) n (by omega) (by omega)
theorem rm_q112 {f : Nat → Int32} {c m s e : Nat} {σ : z_S} {Q : Int32 → z_S → Prop} (h : z_rm f c σ) (hm : m < c) (hr : z_run f m s e) (hq : Q (if 0 < s then (if e < 11 then 2 else 3) else if e < 11 then 3 else 4) σ) : w_X6_qualityOf_112 Q (nI m) (nI s) (nI e) σ := by
  obtain ⟨h1, h2, h3, h4, h5⟩ := hr
  have vb : ∀ Q' : Int32 → z_S → Prop, Q' (if e < 11 then 1 else 0) σ → w_X6_isValid (nI m) (nI e + 1) σ Q' := by
    intro Q' q
    rw [nI_1]
    by_cases e1 : e < 11
    · rw [if_pos e1] at q
      refine rm_valid h hm (by omega) ?_
      rw [if_pos (h5 e1)]
      exact q
    · rw [if_neg e1] at q
      obtain rfl : e = 11 := by omega
      exact rm_valid_n z_12 q
  unfold w_X6_qualityOf_112 w_X6_qualityOf_147
  by_cases e0 : 0 < s
  · rw [if_pos e0] at hq
    obtain ⟨k, rfl⟩ : ∃ k, s = k + 1 := ⟨s - 1, by omega⟩
    rw [show nI (k + 1) - (1 : Int32) = nI k from nI_pred k]
    refine rm_valid h hm (by omega) ?_
    rw [show k = k + 1 - 1 from rfl, if_pos (h4 e0)]
    refine vb _ ?_
    by_cases e1 : e < 11
    · rw [if_pos e1] at hq ⊢
      exact z_ifn (by decide) (z_ifn (by decide) hq)
    · rw [if_neg e1] at hq ⊢
      exact z_ifn (by decide) (z_ifp rfl (z_ifn (by decide) hq))
  · rw [if_neg e0] at hq
    obtain rfl : s = 0 := by omega
    refine rm_valid_n z_m1 (vb _ (z_ifp rfl (z_ifp rfl ?_)))
    by_cases e1 : e < 11
    · rw [if_pos e1] at hq ⊢
      exact z_ifn (by decide) hq
    · rw [if_neg e1] at hq ⊢
      exact z_ifp rfl hq
theorem rm_quality {f : Nat → Int32} {c m i : Nat} {σ : z_S} {Q : Int32 → z_S → Prop} (h : z_rm f c σ) (hm : m < c) (hi : i < 12) (hq : Q (z_ql f m i) σ) : w_X6_qualityOf (nI m) (nI i) σ Q := by
  unfold w_X6_qualityOf
  unfold z_ql at hq
  refine rm_valid h hm hi ?_
  by_cases e : z_St f m i = 0
  · rw [if_pos e] at hq ⊢
    exact z_ifn (by decide) hq
  · rw [if_neg e] at hq ⊢
    have hr := z_run_of hi e
    obtain ⟨h1, h2, h3, h4, h5⟩ := id hr
    refine z_ifp rfl (rm_first h hm hi (rm_last h hm hi ?_))
    generalize z_fs f m i = s at *
    generalize z_ls f m (11 - i) i = e' at *
    refine l_am1 h hm (by omega) (e' + 1 - s) s 400 (by omega) (by omega) (fun n => ?_)
    show wb_X6_qualityOf_32 Q (w_X6_qualityOf_32 Q n) _ _ _ _ _ _
    unfold wb_X6_qualityOf_32
    rw [nI_1]
    refine z_ifp ((nI_ltI (by omega) (by omega)).mpr (by omega)) (rm_adv h hm (by omega) (by omega) ?_)
    unfold z_Qr at hq
    by_cases a1 : z_am f m (e' + 1 - s) s = true
    · rw [if_pos a1]
      refine z_ifn (by decide) ?_
      by_cases a2 : z_A f m s (e' + 1) = zNONE
      · rw [if_neg (fun q => q.2.1 a2)] at hq
        exact z_ifp a2 (rm_q112 h hm hr hq)
      · refine z_ifn a2 (rm_of (k := 3) h hm (by omega) ?_)
        rw [nI_sub h1, nI_1, show e' - s + 1 = e' + 1 - s by omega]
        by_cases a3 : f (4 + 18 * m + 3) * nI (e' + 1 - s) < z_A f m s (e' + 1)
        · rw [if_neg (fun q => q.2.2 a3)] at hq
          exact z_ifp a3 (rm_q112 h hm hr hq)
        · rw [if_pos ⟨a1, a2, a3⟩] at hq
          exact z_ifn a3 hq
    · rw [if_neg a1]
      rw [if_neg (fun q => a1 q.1)] at hq
      exact z_ifp rfl (rm_q112 h hm hr hq)
theorem z_Qr_c (f : Nat → Int32) (m s e : Nat) : z_Qr f m s e = 1 ∨ z_Qr f m s e = 2 ∧ 0 < s ∧ e < 11 ∨ z_Qr f m s e = 3 ∧ (0 < s ∨ e < 11) ∨ z_Qr f m s e = 4 ∧ s = 0 ∧ ¬ e < 11 := by
  unfold z_Qr
  split
  · exact Or.inl rfl
  · refine Or.inr ?_
    by_cases e0 : 0 < s
    · by_cases e1 : e < 11
      · rw [if_pos e0, if_pos e1]
        exact Or.inl ⟨rfl, e0, e1⟩
      · rw [if_pos e0, if_neg e1]
        exact Or.inr (Or.inl ⟨rfl, Or.inl e0⟩)
    · by_cases e1 : e < 11
      · rw [if_neg e0, if_pos e1]
        exact Or.inr (Or.inl ⟨rfl, Or.inr e1⟩)
      · rw [if_neg e0, if_neg e1]
        exact Or.inr (Or.inr ⟨rfl, by omega, e1⟩)
theorem rm_energy {f : Nat → Int32} {c m i : Nat} {σ : z_S} {Q : Int32 → z_S → Prop} (h : z_rm f c σ) (hm : m < c) (hi : i < 12) (hq : Q (z_en f m i) σ) : w_X6_energyOf (nI m) (nI i) σ Q := by
  unfold w_X6_energyOf
  refine rm_quality h hm hi (rm_first h hm hi (rm_last h hm hi ?_))
  unfold z_en at hq
  unfold z_ql
  by_cases e : z_St f m i = 0
  · rw [if_pos e] at hq ⊢
    exact z_ifp rfl (rm_vo h hm hi hq)
  · rw [if_neg e] at hq ⊢
    have hr := z_run_of hi e
    obtain ⟨h1, h2, h3, h4, h5⟩ := id hr
    have b1 := (z_fs_p f m i).1
    have b2 := (z_ls_p f m (11 - i) i).1
    generalize z_fs f m i = s at *
    generalize z_ls f m (11 - i) i = e' at *
    unfold z_Er at hq
    rcases z_Qr_c f m s e' with g | ⟨g, g1, g2⟩ | ⟨g, g1⟩ | ⟨g, g1, g2⟩
    · rw [g, if_pos rfl] at hq
      rw [g, nI_1]
      refine z_ifn (by decide) (z_ifp rfl (rm_adv h hm (by omega) (by omega) (rm_of (k := 1) h hm (by omega) ?_)))
      rintro _ rfl _ rfl
      rw [nI_sub h1, nI_1, nI_sub b1, show e' - s + 1 = e' + 1 - s by omega]
      have nz : ¬ nI (e' + 1 - s) = 0 := fun q => by
        have := (nI_eq (b := 0) (by omega) (by omega)).mp q
        omega
      unfold z_sg at hq
      exact ⟨nz, nz, z_iteQ hq (fun _ q => q) (fun _ q => q)⟩
    · rw [g, if_neg (by decide), if_pos rfl] at hq
      rw [g]
      obtain ⟨k, rfl⟩ : ∃ k, s = k + 1 := ⟨s - 1, by omega⟩
      rw [show nI (k + 1) - (1 : Int32) = nI k from nI_pred k]
      refine z_ifn (by decide) (z_ifn (by decide) (z_ifp rfl (rm_vo h hm (by omega) ?_)))
      rw [nI_1]
      refine rm_vo h hm (by omega) ?_
      rw [nI_sub h1, nI_sub (by omega), nI_sub b1, nI_1, show nI (e' - (k + 1)) + (2 : Int32) = nI (e' + 2 - (k + 1)) by rw [show (2 : Int32) = nI 2 from rfl, nI_add, show e' - (k + 1) + 2 = e' + 2 - (k + 1) by omega]]
      have nz : ¬ nI (e' + 2 - (k + 1)) = 0 := fun q => by
        have := (nI_eq (b := 0) (by omega) (by omega)).mp q
        omega
      exact ⟨nz, hq⟩
    · rw [g, if_neg (by decide), if_neg (by decide), if_pos rfl] at hq
      rw [g]
      refine z_ifn (by decide) (z_ifn (by decide) (z_ifn (by decide) (z_ifp rfl ?_)))
      by_cases e0 : 0 < s
      · rw [if_pos e0] at hq
        obtain ⟨k, rfl⟩ : ∃ k, s = k + 1 := ⟨s - 1, by omega⟩
        rw [show nI (k + 1) - (1 : Int32) = nI k from nI_pred k]
        refine rm_valid h hm (by omega) ?_
        rw [if_pos (show z_St f m k = 0 from h4 e0)]
        exact z_ifn (by decide) (rm_vo h hm (by omega) hq)
      · rw [if_neg e0] at hq
        obtain rfl : s = 0 := by omega
        refine rm_valid_n z_m1 (z_ifp rfl ?_)
        rw [nI_1]
        exact rm_vo h hm (by omega) hq
    · rw [g, if_neg (by decide), if_neg (by decide), if_neg (by decide)] at hq
      rw [g]
      exact z_ifn (by decide) (z_ifn (by decide) (z_ifn (by decide) (z_ifn (by decide) hq)))
