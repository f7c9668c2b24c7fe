/-! the law: each call, then every script -/
theorem zs0_i (a b : Nat) : zg_i zs_0 a b = if (a = 1 ∨ a = 74) ∧ b = 1 then 5 else if (a = 1 ∨ a = 74) ∧ b = 2 then 50 else 0 := rfl
def z_f0 : Nat → Int32 := fun x => if x = 1 then 5 else if x = 2 then 50 else 0
theorem z_Inv_0 : z_Inv zs_0 := by
  have z0 : ∀ a b, a ≠ 1 → a ≠ 74 → zg_i zs_0 a b = 0 := fun a b h1 h2 => by rw [zs0_i, if_neg (by omega), if_neg (by omega)]
  have z1 : ∀ a b, (a = 1 ∨ a = 74) → zg_i zs_0 a b = z_f0 b := by
    intro a b h
    rw [zs0_i]
    unfold z_f0
    by_cases h1 : b = 1
    · rw [if_pos ⟨h, h1⟩, if_pos h1]
    · rw [if_neg (fun q => h1 q.2), if_neg h1]
      by_cases h2 : b = 2
      · rw [if_pos ⟨h, h2⟩, if_pos h2]
      · rw [if_neg (fun q => h2 q.2), if_neg h2]
  have f0 : ∀ x, 4 ≤ x → z_f0 x = 0 := fun x hx => by
    unfold z_f0
    rw [if_neg (by omega), if_neg (by omega)]
  refine ⟨z_f0, 0, 0, fun _ => z_f0, 0, fun _ => 0, ⟨⟨0, Nat.le_refl 0, by omega, rfl, z0 27 1 (by decide) (by decide), fun j _ => rfl, id, fun j hj => absurd hj (Nat.not_lt_zero j), fun i j hi => absurd hi (Nat.not_lt_zero i)⟩, fun x hx => ?_, fun j x hj => absurd hj (Nat.not_lt_zero j), z0 68 1 (by decide) (by decide), fun j _ => z0 69 j (by decide) (by decide)⟩, ⟨z0 73 1 (by decide) (by decide), fun x hx => ?_, fun j x hj => absurd hj (Nat.not_lt_zero j), z0 73 8 (by decide) (by decide), fun j _ => z0 80 j (by decide) (by decide)⟩, ⟨Nat.zero_le _, rfl, ⟨5, by omega, by omega, rfl⟩, ⟨50, by omega, rfl⟩, ⟨0, by omega, rfl⟩, fun h => absurd h (Nat.lt_irrefl 0), fun m _ h => absurd h (Nat.not_lt_zero m), fun m h => absurd h (Nat.not_lt_zero m)⟩, Nat.zero_le _, fun j hj => absurd hj (Nat.not_lt_zero j), Nat.zero_le _, fun j hj => absurd hj (Nat.not_lt_zero j)⟩
  · unfold zv
    by_cases h1 : x < 4
    · rw [if_pos h1]
      exact z1 1 x (Or.inl rfl)
    · rw [if_neg h1, f0 x (by omega)]
      by_cases h2 : x < 184
      · rw [if_pos h2]
        by_cases h3 : (x - 4) % 18 < 5
        · rw [if_pos h3]
          exact z0 _ _ (by omega) (by omega)
        · rw [if_neg h3]
          exact z0 _ _ (by omega) (by omega)
      · rw [if_neg h2]
        exact z0 _ _ (by omega) (by omega)
  · unfold zm
    rw [show 264 * 0 + x = x by omega]
    exact z1 74 x (Or.inr rfl)
section ZLW
variable {xs : Nat → Int32} {Ln : Nat} {k : Int32 → z_S → Prop} {x3 : Int32} {σ : z_S}
theorem wl_0 (h : z_Inv σ) (h1 : vp_in (x3 + (1 : Int32)) Ln) (h2 : vp_in (x3 + (2 : Int32)) Ln) (h3 : vp_in (x3 + (3 : Int32)) Ln) (hk : ∀ s, z_Inv s → k (x3 + (4 : Int32)) s) : wc_law_0 xs Ln k x3 σ := by
  unfold wc_law_0
  simp only [eq_true h1, true_and]
  exact op_addMeter _ h (fun r s hs => z_ifp rfl (by rintro _ rfl; exact hk s hs))
theorem wl_1 (h : z_Inv σ) (h1 : vp_in (x3 + (1 : Int32)) Ln) (h2 : vp_in (x3 + (2 : Int32)) Ln) (h3 : vp_in (x3 + (3 : Int32)) Ln) (hk : ∀ s, z_Inv s → k (x3 + (4 : Int32)) s) : wc_law_1 xs Ln k x3 σ := by
  unfold wc_law_1
  simp only [eq_true h1, eq_true h2, eq_true h3, true_and]
  exact op_setMeter _ _ _ h (fun r s hs => z_ifp rfl (by rintro _ rfl; exact hk s hs))
theorem wl_2 (h : z_Inv σ) (h1 : vp_in (x3 + (1 : Int32)) Ln) (h2 : vp_in (x3 + (2 : Int32)) Ln) (h3 : vp_in (x3 + (3 : Int32)) Ln) (hk : ∀ s, z_Inv s → k (x3 + (4 : Int32)) s) : wc_law_2 xs Ln k x3 σ := by
  unfold wc_law_2
  simp only [eq_true h1, eq_true h2, eq_true h3, true_and]
  exact op_setRegister _ _ _ h (fun r s hs => z_ifp rfl (by rintro _ rfl; exact hk s hs))
theorem wl_3 (h : z_Inv σ) (h1 : vp_in (x3 + (1 : Int32)) Ln) (h2 : vp_in (x3 + (2 : Int32)) Ln) (h3 : vp_in (x3 + (3 : Int32)) Ln) (hk : ∀ s, z_Inv s → k (x3 + (4 : Int32)) s) : wc_law_3 xs Ln k x3 σ := by
  unfold wc_law_3
  simp only [eq_true h1, eq_true h2, true_and]
  exact op_setRules _ _ h (fun r s hs => z_ifp rfl (by rintro _ rfl; exact hk s hs))
theorem wl_4 (h : z_Inv σ) (h1 : vp_in (x3 + (1 : Int32)) Ln) (h2 : vp_in (x3 + (2 : Int32)) Ln) (h3 : vp_in (x3 + (3 : Int32)) Ln) (hk : ∀ s, z_Inv s → k (x3 + (4 : Int32)) s) : wc_law_4 xs Ln k x3 σ := by
  unfold wc_law_4
  exact op_meters h (fun r s hs => z_ifp rfl (by rintro _ rfl; exact hk s hs))
theorem wl_5 (h : z_Inv σ) (h1 : vp_in (x3 + (1 : Int32)) Ln) (h2 : vp_in (x3 + (2 : Int32)) Ln) (h3 : vp_in (x3 + (3 : Int32)) Ln) (hk : ∀ s, z_Inv s → k (x3 + (4 : Int32)) s) : wc_law_5 xs Ln k x3 σ := by
  unfold wc_law_5
  simp only [eq_true h1, eq_true h2, true_and]
  exact op_meter _ _ h (fun r s hs => z_ifp rfl (by rintro _ rfl; exact hk s hs))
theorem wl_6 (h : z_Inv σ) (h1 : vp_in (x3 + (1 : Int32)) Ln) (h2 : vp_in (x3 + (2 : Int32)) Ln) (h3 : vp_in (x3 + (3 : Int32)) Ln) (hk : ∀ s, z_Inv s → k (x3 + (4 : Int32)) s) : wc_law_6 xs Ln k x3 σ := by
  unfold wc_law_6
  simp only [eq_true h1, eq_true h2, true_and]
  exact op_child _ _ h (fun r s hs => z_ifp rfl (by rintro _ rfl; exact hk s hs))
theorem wl_7 (h : z_Inv σ) (h1 : vp_in (x3 + (1 : Int32)) Ln) (h2 : vp_in (x3 + (2 : Int32)) Ln) (h3 : vp_in (x3 + (3 : Int32)) Ln) (hk : ∀ s, z_Inv s → k (x3 + (4 : Int32)) s) : wc_law_7 xs Ln k x3 σ := by
  unfold wc_law_7
  simp only [eq_true h1, eq_true h2, eq_true h3, true_and]
  exact op_setReading _ _ _ h (fun r s hs => z_ifp rfl (by rintro _ rfl; exact hk s hs))
theorem wl_8 (h : z_Inv σ) (h1 : vp_in (x3 + (1 : Int32)) Ln) (h2 : vp_in (x3 + (2 : Int32)) Ln) (h3 : vp_in (x3 + (3 : Int32)) Ln) (hk : ∀ s, z_Inv s → k (x3 + (4 : Int32)) s) : wc_law_8 xs Ln k x3 σ := by
  unfold wc_law_8
  simp only [eq_true h1, eq_true h2, eq_true h3, true_and]
  exact op_setAll _ _ _ h (fun r s hs => z_ifp rfl (by rintro _ rfl; exact hk s hs))
theorem wl_9 (h : z_Inv σ) (h1 : vp_in (x3 + (1 : Int32)) Ln) (h2 : vp_in (x3 + (2 : Int32)) Ln) (h3 : vp_in (x3 + (3 : Int32)) Ln) (hk : ∀ s, z_Inv s → k (x3 + (4 : Int32)) s) : wc_law_9 xs Ln k x3 σ := by
  unfold wc_law_9
  simp only [eq_true h1, eq_true h2, true_and]
  exact op_removeReading _ _ h (fun r s hs => z_ifp rfl (by rintro _ rfl; exact hk s hs))
theorem wl_10 (h : z_Inv σ) (h1 : vp_in (x3 + (1 : Int32)) Ln) (h2 : vp_in (x3 + (2 : Int32)) Ln) (h3 : vp_in (x3 + (3 : Int32)) Ln) (hk : ∀ s, z_Inv s → k (x3 + (4 : Int32)) s) : wc_law_10 xs Ln k x3 σ := by
  unfold wc_law_10
  simp only [eq_true h1, eq_true h2, true_and]
  exact op_reading _ _ h (fun r s hs => z_ifp rfl (by rintro _ rfl; exact hk s hs))
theorem wl_11 (h : z_Inv σ) (h1 : vp_in (x3 + (1 : Int32)) Ln) (h2 : vp_in (x3 + (2 : Int32)) Ln) (h3 : vp_in (x3 + (3 : Int32)) Ln) (hk : ∀ s, z_Inv s → k (x3 + (4 : Int32)) s) : wc_law_11 xs Ln k x3 σ := by
  unfold wc_law_11
  simp only [eq_true h1, eq_true h2, true_and]
  exact op_raw _ _ h (fun r s hs => z_ifp rfl (by rintro _ rfl; exact hk s hs))
theorem wl_12 (h : z_Inv σ) (h1 : vp_in (x3 + (1 : Int32)) Ln) (h2 : vp_in (x3 + (2 : Int32)) Ln) (h3 : vp_in (x3 + (3 : Int32)) Ln) (hk : ∀ s, z_Inv s → k (x3 + (4 : Int32)) s) : wc_law_12 xs Ln k x3 σ := by
  unfold wc_law_12
  simp only [eq_true h1, eq_true h2, true_and]
  exact op_status _ _ h (fun r s hs => z_ifp rfl (by rintro _ rfl; exact hk s hs))
theorem wl_13 (h : z_Inv σ) (h1 : vp_in (x3 + (1 : Int32)) Ln) (h2 : vp_in (x3 + (2 : Int32)) Ln) (h3 : vp_in (x3 + (3 : Int32)) Ln) (hk : ∀ s, z_Inv s → k (x3 + (4 : Int32)) s) : wc_law_13 xs Ln k x3 σ := by
  unfold wc_law_13
  simp only [eq_true h1, eq_true h2, true_and]
  exact op_energy _ _ h (fun r s hs => z_ifp rfl (by rintro _ rfl; exact hk s hs))
theorem wl_14 (h : z_Inv σ) (h1 : vp_in (x3 + (1 : Int32)) Ln) (h2 : vp_in (x3 + (2 : Int32)) Ln) (h3 : vp_in (x3 + (3 : Int32)) Ln) (hk : ∀ s, z_Inv s → k (x3 + (4 : Int32)) s) : wc_law_14 xs Ln k x3 σ := by
  unfold wc_law_14
  simp only [eq_true h1, eq_true h2, true_and]
  exact op_quality _ _ h (fun r s hs => z_ifp rfl (by rintro _ rfl; exact hk s hs))
theorem wl_15 (h : z_Inv σ) (h1 : vp_in (x3 + (1 : Int32)) Ln) (h2 : vp_in (x3 + (2 : Int32)) Ln) (h3 : vp_in (x3 + (3 : Int32)) Ln) (hk : ∀ s, z_Inv s → k (x3 + (4 : Int32)) s) : wc_law_15 xs Ln k x3 σ := by
  unfold wc_law_15
  simp only [eq_true h1, eq_true h2, true_and]
  exact op_day _ _ h (fun r s hs => z_ifp rfl (by rintro _ rfl; exact hk s hs))
theorem wl_16 (h : z_Inv σ) (h1 : vp_in (x3 + (1 : Int32)) Ln) (h2 : vp_in (x3 + (2 : Int32)) Ln) (h3 : vp_in (x3 + (3 : Int32)) Ln) (hk : ∀ s, z_Inv s → k (x3 + (4 : Int32)) s) : wc_law_16 xs Ln k x3 σ := by
  unfold wc_law_16
  simp only [eq_true h1, eq_true h2, true_and]
  exact op_loss _ _ h (fun r s hs => z_ifp rfl (by rintro _ rfl; exact hk s hs))
theorem wl_17 (h : z_Inv σ) (h1 : vp_in (x3 + (1 : Int32)) Ln) (h2 : vp_in (x3 + (2 : Int32)) Ln) (h3 : vp_in (x3 + (3 : Int32)) Ln) (hk : ∀ s, z_Inv s → k (x3 + (4 : Int32)) s) : wc_law_17 xs Ln k x3 σ := by
  unfold wc_law_17
  simp only [eq_true h1, eq_true h2, true_and]
  exact op_balance _ _ h (fun r s hs => z_ifp rfl (by rintro _ rfl; exact hk s hs))
theorem wl_18 (h : z_Inv σ) (h1 : vp_in (x3 + (1 : Int32)) Ln) (h2 : vp_in (x3 + (2 : Int32)) Ln) (h3 : vp_in (x3 + (3 : Int32)) Ln) (hk : ∀ s, z_Inv s → k (x3 + (4 : Int32)) s) : wc_law_18 xs Ln k x3 σ := by
  unfold wc_law_18
  simp only [eq_true h1, eq_true h2, true_and]
  exact op_nextFault _ _ h (fun r s hs => z_ifp rfl (by rintro _ rfl; exact hk s hs))
theorem wl_19 (h : z_Inv σ) (h1 : vp_in (x3 + (1 : Int32)) Ln) (h2 : vp_in (x3 + (2 : Int32)) Ln) (h3 : vp_in (x3 + (3 : Int32)) Ln) (hk : ∀ s, z_Inv s → k (x3 + (4 : Int32)) s) : wc_law_19 xs Ln k x3 σ := by
  unfold wc_law_19
  simp only [eq_true h1, eq_true h2, true_and]
  exact op_billed _ _ h (fun r s hs => z_ifp rfl (by rintro _ rfl; exact hk s hs))
theorem wl_20 (h : z_Inv σ) (h1 : vp_in (x3 + (1 : Int32)) Ln) (h2 : vp_in (x3 + (2 : Int32)) Ln) (h3 : vp_in (x3 + (3 : Int32)) Ln) (hk : ∀ s, z_Inv s → k (x3 + (4 : Int32)) s) : wc_law_20 xs Ln k x3 σ := by
  unfold wc_law_20
  simp only [eq_true h1, eq_true h2, true_and]
  exact op_part _ _ h (fun r s hs => z_ifp rfl (by rintro _ rfl; exact hk s hs))
theorem wl_21 (h : z_Inv σ) (h1 : vp_in (x3 + (1 : Int32)) Ln) (h2 : vp_in (x3 + (2 : Int32)) Ln) (h3 : vp_in (x3 + (3 : Int32)) Ln) (hk : ∀ s, z_Inv s → k (x3 + (4 : Int32)) s) : wc_law_21 xs Ln k x3 σ := by
  unfold wc_law_21
  simp only [eq_true h1, true_and]
  exact op_shareBits _ h (fun r s hs => z_ifp rfl (by rintro _ rfl; exact hk s hs))
theorem wl_22 (h : z_Inv σ) (h1 : vp_in (x3 + (1 : Int32)) Ln) (h2 : vp_in (x3 + (2 : Int32)) Ln) (h3 : vp_in (x3 + (3 : Int32)) Ln) (hk : ∀ s, z_Inv s → k (x3 + (4 : Int32)) s) : wc_law_22 xs Ln k x3 σ := by
  unfold wc_law_22
  simp only [eq_true h1, true_and]
  exact op_share _ h (fun r s hs => z_ifp rfl (by rintro _ rfl; exact hk s hs))
theorem wl_23 (h : z_Inv σ) (h1 : vp_in (x3 + (1 : Int32)) Ln) (h2 : vp_in (x3 + (2 : Int32)) Ln) (h3 : vp_in (x3 + (3 : Int32)) Ln) (hk : ∀ s, z_Inv s → k (x3 + (4 : Int32)) s) : wc_law_23 xs Ln k x3 σ := by
  unfold wc_law_23
  simp only [eq_true h1, true_and]
  exact op_imbalance _ h (fun r s hs => z_ifp rfl (by rintro _ rfl; exact hk s hs))
theorem wl_24 (h : z_Inv σ) (h1 : vp_in (x3 + (1 : Int32)) Ln) (h2 : vp_in (x3 + (2 : Int32)) Ln) (h3 : vp_in (x3 + (3 : Int32)) Ln) (hk : ∀ s, z_Inv s → k (x3 + (4 : Int32)) s) : wc_law_24 xs Ln k x3 σ := by
  unfold wc_law_24
  simp only [eq_true h1, eq_true h2, eq_true h3, true_and]
  exact op_imbalanceWith _ _ _ h (fun r s hs => z_ifp rfl (by rintro _ rfl; exact hk s hs))
theorem wl_25 (h : z_Inv σ) (h1 : vp_in (x3 + (1 : Int32)) Ln) (h2 : vp_in (x3 + (2 : Int32)) Ln) (h3 : vp_in (x3 + (3 : Int32)) Ln) (hk : ∀ s, z_Inv s → k (x3 + (4 : Int32)) s) : wc_law_25 xs Ln k x3 σ := by
  unfold wc_law_25
  simp only [eq_true h1, true_and]
  exact op_suspect _ h (fun r s hs => z_ifp rfl (by rintro _ rfl; exact hk s hs))
theorem wl_26 (h : z_Inv σ) (h1 : vp_in (x3 + (1 : Int32)) Ln) (h2 : vp_in (x3 + (2 : Int32)) Ln) (h3 : vp_in (x3 + (3 : Int32)) Ln) (hk : ∀ s, z_Inv s → k (x3 + (4 : Int32)) s) : wc_law_26 xs Ln k x3 σ := by
  unfold wc_law_26
  exact op_revise h (fun r s hs => z_ifp rfl (by rintro _ rfl; exact hk s hs))
theorem wl_27 (h : z_Inv σ) (h1 : vp_in (x3 + (1 : Int32)) Ln) (h2 : vp_in (x3 + (2 : Int32)) Ln) (h3 : vp_in (x3 + (3 : Int32)) Ln) (hk : ∀ s, z_Inv s → k (x3 + (4 : Int32)) s) : wc_law_27 xs Ln k x3 σ := by
  unfold wc_law_27
  exact op_revisions h (fun r s hs => z_ifp rfl (by rintro _ rfl; exact hk s hs))
theorem wl_28 (h : z_Inv σ) (h1 : vp_in (x3 + (1 : Int32)) Ln) (h2 : vp_in (x3 + (2 : Int32)) Ln) (h3 : vp_in (x3 + (3 : Int32)) Ln) (hk : ∀ s, z_Inv s → k (x3 + (4 : Int32)) s) : wc_law_28 xs Ln k x3 σ := by
  unfold wc_law_28
  simp only [eq_true h1, eq_true h2, true_and]
  exact op_billOf _ _ h (fun r s hs => z_ifp rfl (by rintro _ rfl; exact hk s hs))
theorem wl_29 (h : z_Inv σ) (h1 : vp_in (x3 + (1 : Int32)) Ln) (h2 : vp_in (x3 + (2 : Int32)) Ln) (h3 : vp_in (x3 + (3 : Int32)) Ln) (hk : ∀ s, z_Inv s → k (x3 + (4 : Int32)) s) : wc_law_29 xs Ln k x3 σ := by
  unfold wc_law_29
  simp only [eq_true h1, eq_true h2, eq_true h3, true_and]
  exact op_changed _ _ _ h (fun r s hs => z_ifp rfl (by rintro _ rfl; exact hk s hs))
theorem wl_30 (h : z_Inv σ) (h1 : vp_in (x3 + (1 : Int32)) Ln) (h2 : vp_in (x3 + (2 : Int32)) Ln) (h3 : vp_in (x3 + (3 : Int32)) Ln) (hk : ∀ s, z_Inv s → k (x3 + (4 : Int32)) s) : wc_law_30 xs Ln k x3 σ := by
  unfold wc_law_30
  exact op_clearRevisions h (fun r s hs => z_ifp rfl (by rintro _ rfl; exact hk s hs))
theorem wl_31 (h : z_Inv σ) (h1 : vp_in (x3 + (1 : Int32)) Ln) (h2 : vp_in (x3 + (2 : Int32)) Ln) (h3 : vp_in (x3 + (3 : Int32)) Ln) (hk : ∀ s, z_Inv s → k (x3 + (4 : Int32)) s) : wc_law_31 xs Ln k x3 σ := by
  unfold wc_law_31
  exact op_undo h (fun r s hs => z_ifp rfl (by rintro _ rfl; exact hk s hs))
theorem wl_32 (h : z_Inv σ) (h1 : vp_in (x3 + (1 : Int32)) Ln) (h2 : vp_in (x3 + (2 : Int32)) Ln) (h3 : vp_in (x3 + (3 : Int32)) Ln) (hk : ∀ s, z_Inv s → k (x3 + (4 : Int32)) s) : wc_law_32 xs Ln k x3 σ := by
  unfold wc_law_32
  simp only [eq_true h1, true_and]
  exact op_type _ h (fun r s hs => z_ifp rfl (by rintro _ rfl; exact hk s hs))
theorem wl_33 (h : z_Inv σ) (h1 : vp_in (x3 + (1 : Int32)) Ln) (h2 : vp_in (x3 + (2 : Int32)) Ln) (h3 : vp_in (x3 + (3 : Int32)) Ln) (hk : ∀ s, z_Inv s → k (x3 + (4 : Int32)) s) : wc_law_33 xs Ln k x3 σ := by
  unfold wc_law_33
  exact op_clearText h (fun r s hs => z_ifp rfl (by rintro _ rfl; exact hk s hs))
theorem wl_34 (h : z_Inv σ) (h1 : vp_in (x3 + (1 : Int32)) Ln) (h2 : vp_in (x3 + (2 : Int32)) Ln) (h3 : vp_in (x3 + (3 : Int32)) Ln) (hk : ∀ s, z_Inv s → k (x3 + (4 : Int32)) s) : wc_law_34 xs Ln k x3 σ := by
  unfold wc_law_34
  exact op_textFault h (fun r s hs => z_ifp rfl (by rintro _ rfl; exact hk s hs))
theorem wl_35 (h : z_Inv σ) (h1 : vp_in (x3 + (1 : Int32)) Ln) (h2 : vp_in (x3 + (2 : Int32)) Ln) (h3 : vp_in (x3 + (3 : Int32)) Ln) (hk : ∀ s, z_Inv s → k (x3 + (4 : Int32)) s) : wc_law_35 xs Ln k x3 σ := by
  unfold wc_law_35
  exact op_load h (fun r s hs => z_ifp rfl (by rintro _ rfl; exact hk s hs))
theorem wl_36 (h : z_Inv σ) (h1 : vp_in (x3 + (1 : Int32)) Ln) (h2 : vp_in (x3 + (2 : Int32)) Ln) (h3 : vp_in (x3 + (3 : Int32)) Ln) (hk : ∀ s, z_Inv s → k (x3 + (4 : Int32)) s) : wc_law_36 xs Ln k x3 σ := by
  unfold wc_law_36
  exact op_digest h (fun r s hs => z_ifp ((lg_cmp_eq _ _).mpr rfl) (by rintro _ rfl; exact hk s hs))
end ZLW
theorem wl_all {xs : Nat → Int32} {Ln : Nat} (hL : Ln ≤ 2048) : ∀ n x σ, Ln < x + 4 * n → x ≤ Ln → z_Inv σ → w_law xs Ln n (nI x) σ := by
  intro n
  induction n with
  | zero =>
    intro x σ h1 h2
    omega
  | succ n ih =>
    intro x σ h1 h2 hσ
    show wb_law xs Ln (w_law xs Ln n) (nI x) σ
    unfold wb_law
    have e : (Int32.ofNat Ln) - (4 : Int32) = nZ ((Ln : Int) - 4) := by
      rw [show Int32.ofNat Ln = nZ (Ln : Int) from (nZ_n Ln).symm, show (4 : Int32) = nZ 4 from rfl, nZ_sub]
    refine z_ite (fun _ => trivial) (fun h => ?_)
    have hx : x + 4 ≤ Ln := by
      rw [e, Int32.lt_iff_toInt_lt, nZ_toInt (by omega) (by omega), nI_toInt (by omega)] at h
      omega
    have h1 : vp_in (nI x + (1 : Int32)) Ln := by
      rw [nI_1]
      exact z_vin (by omega) (by omega)
    have h2 : vp_in (nI x + (2 : Int32)) Ln := by
      rw [show (2 : Int32) = nI 2 from rfl, nI_add]
      exact z_vin (by omega) (by omega)
    have h3 : vp_in (nI x + (3 : Int32)) Ln := by
      rw [show (3 : Int32) = nI 3 from rfl, nI_add]
      exact z_vin (by omega) (by omega)
    have hk : ∀ s, z_Inv s → w_law xs Ln n (nI x + (4 : Int32)) s := by
      intro s hs
      rw [show (4 : Int32) = nI 4 from rfl, nI_add]
      exact ih (x + 4) s (by omega) hx hs
    refine ⟨z_vin (by omega) (by omega), ?_⟩
    refine z_ite (fun _ => wl_0 hσ h1 h2 h3 hk) (fun _ => ?_)
    refine z_ite (fun _ => wl_1 hσ h1 h2 h3 hk) (fun _ => ?_)
    refine z_ite (fun _ => wl_2 hσ h1 h2 h3 hk) (fun _ => ?_)
    refine z_ite (fun _ => wl_3 hσ h1 h2 h3 hk) (fun _ => ?_)
    refine z_ite (fun _ => wl_4 hσ h1 h2 h3 hk) (fun _ => ?_)
    refine z_ite (fun _ => wl_5 hσ h1 h2 h3 hk) (fun _ => ?_)
    refine z_ite (fun _ => wl_6 hσ h1 h2 h3 hk) (fun _ => ?_)
    refine z_ite (fun _ => wl_7 hσ h1 h2 h3 hk) (fun _ => ?_)
    refine z_ite (fun _ => wl_8 hσ h1 h2 h3 hk) (fun _ => ?_)
    refine z_ite (fun _ => wl_9 hσ h1 h2 h3 hk) (fun _ => ?_)
    refine z_ite (fun _ => wl_10 hσ h1 h2 h3 hk) (fun _ => ?_)
    refine z_ite (fun _ => wl_11 hσ h1 h2 h3 hk) (fun _ => ?_)
    refine z_ite (fun _ => wl_12 hσ h1 h2 h3 hk) (fun _ => ?_)
    refine z_ite (fun _ => wl_13 hσ h1 h2 h3 hk) (fun _ => ?_)
    refine z_ite (fun _ => wl_14 hσ h1 h2 h3 hk) (fun _ => ?_)
    refine z_ite (fun _ => wl_15 hσ h1 h2 h3 hk) (fun _ => ?_)
    refine z_ite (fun _ => wl_16 hσ h1 h2 h3 hk) (fun _ => ?_)
    refine z_ite (fun _ => wl_17 hσ h1 h2 h3 hk) (fun _ => ?_)
    refine z_ite (fun _ => wl_18 hσ h1 h2 h3 hk) (fun _ => ?_)
    refine z_ite (fun _ => wl_19 hσ h1 h2 h3 hk) (fun _ => ?_)
    refine z_ite (fun _ => wl_20 hσ h1 h2 h3 hk) (fun _ => ?_)
    refine z_ite (fun _ => wl_21 hσ h1 h2 h3 hk) (fun _ => ?_)
    refine z_ite (fun _ => wl_22 hσ h1 h2 h3 hk) (fun _ => ?_)
    refine z_ite (fun _ => wl_23 hσ h1 h2 h3 hk) (fun _ => ?_)
    refine z_ite (fun _ => wl_24 hσ h1 h2 h3 hk) (fun _ => ?_)
    refine z_ite (fun _ => wl_25 hσ h1 h2 h3 hk) (fun _ => ?_)
    refine z_ite (fun _ => wl_26 hσ h1 h2 h3 hk) (fun _ => ?_)
    refine z_ite (fun _ => wl_27 hσ h1 h2 h3 hk) (fun _ => ?_)
    refine z_ite (fun _ => wl_28 hσ h1 h2 h3 hk) (fun _ => ?_)
    refine z_ite (fun _ => wl_29 hσ h1 h2 h3 hk) (fun _ => ?_)
    refine z_ite (fun _ => wl_30 hσ h1 h2 h3 hk) (fun _ => ?_)
    refine z_ite (fun _ => wl_31 hσ h1 h2 h3 hk) (fun _ => ?_)
    refine z_ite (fun _ => wl_32 hσ h1 h2 h3 hk) (fun _ => ?_)
    refine z_ite (fun _ => wl_33 hσ h1 h2 h3 hk) (fun _ => ?_)
    refine z_ite (fun _ => wl_34 hσ h1 h2 h3 hk) (fun _ => ?_)
    refine z_ite (fun _ => wl_35 hσ h1 h2 h3 hk) (fun _ => ?_)
    refine z_ite (fun _ => wl_36 hσ h1 h2 h3 hk) (fun _ => ?_)
    rintro _ rfl
    exact hk σ hσ
theorem whole_HP (xs : Nat → Int32) (Ln : Nat) (hL : Ln ≤ 2048) : w_law xs Ln 513 0 zs_0 := by
  have := wl_all (xs := xs) hL 513 0 zs_0 (by omega) (Nat.zero_le Ln) z_Inv_0
  rw [nI_0] at this
  exact this
