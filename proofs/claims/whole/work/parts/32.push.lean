/-! the class's history -/
/-- a block, seen as the reference lays a state out -/
def zv (σ : z_S) (k : Nat) : Nat → Int32 := fun x => if x < 4 then zg_i σ k x else if x < 184 then (if (x - 4) % 18 < 5 then zg_i σ (k + (1 + (x - 4) % 18)) ((x - 4) / 18) else zg_i σ (k + (7 + (x - 4) / 18)) ((x - 4) % 18 - 5)) else zg_i σ (k + (18 + (x - 184) / 10)) ((x - 184) % 10)
theorem z_ln1 {c : Nat} (h : c < 5) : z_ln (1 + c) = 10 := (show ∀ c, c < 5 → z_ln (1 + c) = 10 by decide +kernel) c h
theorem z_ln7 {c : Nat} (h : c < 10) : z_ln (7 + c) = 13 := (show ∀ c, c < 10 → z_ln (7 + c) = 13 by decide +kernel) c h
theorem z_ln18 {c : Nat} (h : c < 8) : z_ln (18 + c) = 10 := (show ∀ c, c < 8 → z_ln (18 + c) = 10 by decide +kernel) c h
theorem zv_cpd {σ τ : z_S} {k1 k2 x : Nat} (h : z_cpd σ k1 k2 26 τ) (hx : x < 264) : zv τ k1 x = zv σ k2 x := by
  unfold zv
  by_cases h1 : x < 4
  · rw [if_pos h1, if_pos h1]
    exact h.1 0 x (by decide) h1
  · rw [if_neg h1, if_neg h1]
    by_cases h2 : x < 184
    · rw [if_pos h2, if_pos h2]
      by_cases h3 : (x - 4) % 18 < 5
      · rw [if_pos h3, if_pos h3]
        exact h.1 _ _ (by omega) (by rw [z_ln1 h3]; omega)
      · rw [if_neg h3, if_neg h3]
        exact h.1 _ _ (by omega) (by rw [z_ln7 (by omega)]; omega)
    · rw [if_neg h2, if_neg h2]
      exact h.1 _ _ (by omega) (by rw [z_ln18 (by omega)]; omega)
theorem zv_eq {σ τ : z_S} {k x : Nat} (h : ∀ p, k ≤ p → p < k + 26 → zg_i τ p = zg_i σ p) (hx : x < 264) : zv τ k x = zv σ k x := by
  unfold zv
  by_cases h1 : x < 4
  · rw [if_pos h1, if_pos h1, h k (by omega) (by omega)]
  · rw [if_neg h1, if_neg h1]
    by_cases h2 : x < 184
    · rw [if_pos h2, if_pos h2]
      by_cases h3 : (x - 4) % 18 < 5
      · rw [if_pos h3, if_pos h3, h _ (by omega) (by omega)]
      · rw [if_neg h3, if_neg h3, h _ (by omega) (by omega)]
    · rw [if_neg h2, if_neg h2, h _ (by omega) (by omega)]
/-- the block of the j-th state of the history -/
def zb (σ : z_S) (j : Nat) : Nat := (zg_r σ j).getD 0
def z_his (σ : z_S) (sv a : Nat) : Prop := sv ≤ a ∧ a ≤ 5 ∧ zg_n σ = 81 + 26 * a ∧ zg_i σ 27 1 = nI sv ∧ (∀ j, a ≤ j → zg_r σ j = none) ∧ ∃ f : Nat → Nat, (∀ j, j < a → zg_r σ j = some (81 + 26 * f j) ∧ f j < a) ∧ ∀ i j, i < a → j < a → f i = f j → i = j
theorem z_sh_h (i j : Nat) (hj : j < 26) : z_sh (81 + 26 * i + j) = z_sh (1 + j) := by
  unfold z_sh
  rw [if_neg (by omega), if_pos (by omega), show (81 + 26 * i + j - 81) % 26 = j by omega]
theorem z_blk_h {σ : z_S} {i a : Nat} (hn : zg_n σ = 81 + 26 * a) (hi : i < a) : z_blk (81 + 26 * i) σ := ⟨fun j hj => z_sh_h i j hj, by rw [hn]; omega⟩
theorem z_blk_1 {σ : z_S} {a : Nat} (hn : zg_n σ = 81 + 26 * a) : z_blk 1 σ := ⟨fun j _ => rfl, by rw [hn]; omega⟩
def z_pushed (σ : z_S) (sv : Nat) (τ : z_S) : Prop :=
  (∀ j x, x < 264 → j < min sv 4 → zv τ (zb τ j) x = zv σ (zb σ (if sv = 5 then j + 1 else j)) x) ∧ (∀ x, x < 264 → zv τ (zb τ (min sv 4)) x = zv σ 1 x) ∧ (∃ a, z_his τ (min sv 4 + 1) a) ∧ (∀ p, p < 81 → p ≠ 27 → zg_i τ p = zg_i σ p) ∧ ∀ p, p < 81 → zg_l τ p = zg_l σ p
/-- the last steps of a push, with the slot's block at b -/
theorem s_push44 {σ : z_S} {Q : z_S → Prop} {s a i : Nat} (hs : s ≤ 4) (ha : s < a) (h5 : a ≤ 5) (hn : zg_n σ = 81 + 26 * a) (h27 : zg_i σ 27 1 = nI s) (hnone : ∀ j, a ≤ j → zg_r σ j = none) {f : Nat → Nat} (hf : ∀ j, j < a → zg_r σ j = some (81 + 26 * f j) ∧ f j < a) (hinj : ∀ i j, i < a → j < a → f i = f j → i = j) (hi : f s = i)
    (hq : ∀ τ, (∀ j x, x < 264 → j < s → zv τ (zb τ j) x = zv σ (zb σ j) x) → (∀ x, x < 264 → zv τ (zb τ s) x = zv σ 1 x) → z_his τ (s + 1) a → (∀ p, p < 81 → p ≠ 27 → zg_i τ p = zg_i σ p) → (∀ p, zg_l τ p = zg_l σ p) → Q τ) : w_X2_push_44 Q (81 + 26 * i) σ := by
  have hia : i < a := by rw [← hi]; exact (hf s ha).2
  unfold w_X2_push_44
  refine ⟨z_blk_h hn hia, s_copyFrom (z_blk_h hn hia) (z_blk_1 hn) (by omega) (fun τ hτ => ?_)⟩
  rintro _ rfl
  have hr : ∀ v : Int32, zg_r (zs_i τ 27 1 v) = zg_r σ := fun v => by
    show τ.2.2.1 = σ.2.2.1
    rw [hτ.2.2]
  have h27' : zg_i τ 27 = zg_i σ 27 := hτ.2.1 27 (by omega)
  have hview : ∀ (v : Int32) (k x : Nat), 81 ≤ k → x < 264 → zv (zs_i τ 27 1 v) k x = zv τ k x := fun v k x hk hx => zv_eq (fun p h1 _ => zs_i_ne (by omega)) hx
  rw [h27', h27, show nI s + (1 : Int32) = nI (s + 1) from nI_1 s]
  refine hq _ (fun j x hx hj => ?_) (fun x hx => ?_) ⟨by omega, h5, ?_, zs_i_at, ?_, f, ?_, hinj⟩ (fun p hp hp2 => ?_) (fun p => ?_)
  · have hzb : zb (zs_i τ 27 1 (nI (s + 1))) j = 81 + 26 * f j := by
      unfold zb
      rw [hr, (hf j (by omega)).1]
      rfl
    have hzb2 : zb σ j = 81 + 26 * f j := by
      unfold zb
      rw [(hf j (by omega)).1]
      rfl
    rw [hzb, hzb2, hview _ _ _ (by omega) hx]
    have hne : f j ≠ i := fun e => by
      have := hinj j s (by omega) ha (by rw [hi]; exact e)
      omega
    exact zv_eq (fun p h1 h2 => hτ.2.1 p (by omega)) hx
  · have hzb : zb (zs_i τ 27 1 (nI (s + 1))) s = 81 + 26 * i := by
      unfold zb
      rw [hr, (hf s ha).1, hi]
      rfl
    rw [hzb, hview _ _ _ (by omega) hx]
    exact zv_cpd hτ hx
  · show τ.2.2.2 = _
    rw [hτ.2.2]
    exact hn
  · intro j hj
    rw [hr]
    exact hnone j hj
  · intro j hj
    rw [hr]
    exact hf j hj
  · rw [zs_i_ne hp2]
    exact hτ.2.1 p (by omega)
  · show τ.2.1 p = σ.2.1 p
    rw [hτ.2.2]
theorem s_push12 {σ : z_S} {Q : z_S → Prop} {s a : Nat} (hs : s ≤ 4) (h : z_his σ s a)
    (hq : ∀ τ a', (∀ j x, x < 264 → j < s → zv τ (zb τ j) x = zv σ (zb σ j) x) → (∀ x, x < 264 → zv τ (zb τ s) x = zv σ 1 x) → z_his τ (s + 1) a' → (∀ p, p < 81 → p ≠ 27 → zg_i τ p = zg_i σ p) → (∀ p, p < 81 → zg_l τ p = zg_l σ p) → Q τ) : w_X2_push_12 Q σ := by
  obtain ⟨h1, h5, hn, h27, hnone, f, hf, hinj⟩ := h
  unfold w_X2_push_12
  rw [h27, z_tn (by omega)]
  refine ⟨z_vin (by omega) (by omega), fun hr => ?_, fun b hb => ?_⟩
  · have hsa : s = a := by
      by_cases e : s < a
      · rw [(hf s e).1] at hr
        cases hr
      · omega
    subst hsa
    refine ⟨fun j hj => by rw [hn]; exact z_sh_h s j hj, ?_⟩
    rintro _ rfl
    have hnn : zg_n (zs_new σ) = 81 + 26 * (s + 1) := by show zg_n σ + 26 = _; rw [hn]; omega
    have hold : ∀ p, p < 81 + 26 * s → zg_i (zs_new σ) p = zg_i σ p := fun p hp => funext fun x => if_neg (by rw [hn]; omega)
    rw [hold 27 (by omega), h27, z_tn (by omega), hn]
    refine ⟨z_vin (by omega) (by omega), z_blk_h hnn (by omega), ?_⟩
    rintro _ rfl
    have hr2 : ∀ j, zg_r (zs_r (zs_new σ) s (some (81 + 26 * s))) j = if j = s then some (81 + 26 * s) else zg_r σ j := fun j => rfl
    refine s_push44 (s := s) (a := s + 1) (f := fun j => if j = s then s else f j) hs (by omega) (by omega) hnn (by rw [zg_i_sr, hold 27 (by omega), h27]) (fun j hj => ?_) (fun j hj => ?_) (fun i j hi hj e => ?_) (if_pos rfl) (fun τ q1 q2 q3 q4 q5 => hq τ (s + 1) (fun j x hx hj => ?_) (fun x hx => ?_) q3 (fun p hp hp2 => ?_) (fun p hp => ?_))
    · rw [hr2, if_neg (by omega)]
      exact hnone j (by omega)
    · rw [hr2]
      by_cases e : j = s
      · rw [if_pos e, if_pos e]
        exact ⟨rfl, by omega⟩
      · rw [if_neg e, if_neg e]
        exact ⟨(hf j (by omega)).1, by have := (hf j (by omega)).2; omega⟩
    · by_cases ei : i = s <;> by_cases ej : j = s
      · omega
      · rw [if_pos ei, if_neg ej] at e
        have := (hf j (by omega)).2
        omega
      · rw [if_neg ei, if_pos ej] at e
        have := (hf i (by omega)).2
        omega
      · rw [if_neg ei, if_neg ej] at e
        exact hinj i j (by omega) (by omega) e
    · rw [q1 j x hx hj]
      have e1 : zb (zs_r (zs_new σ) s (some (81 + 26 * s))) j = 81 + 26 * f j := by
        unfold zb
        rw [hr2, if_neg (by omega), (hf j hj).1]
        rfl
      have e2 : zb σ j = 81 + 26 * f j := by
        unfold zb
        rw [(hf j hj).1]
        rfl
      rw [e1, e2]
      have := (hf j hj).2
      exact zv_eq (fun p h1 h2 => by rw [zg_i_sr]; exact hold p (by omega)) hx
    · rw [q2 x hx]
      exact zv_eq (fun p h1 h2 => by rw [zg_i_sr]; exact hold p (by omega)) hx
    · rw [q4 p hp hp2, zg_i_sr]
      exact hold p (by omega)
    · rw [q5 p, zg_l_sr]
      exact funext fun x => if_neg (by rw [hn]; omega)
  · have hsa : s < a := by
      by_cases e : s < a
      · exact e
      · rw [hnone s (by omega)] at hb
        cases hb
    have hb2 : b = 81 + 26 * f s := by
      rw [(hf s hsa).1] at hb
      exact (Option.some.inj hb).symm
    subst hb2
    exact s_push44 hs hsa h5 hn h27 hnone hf hinj rfl (fun τ q1 q2 q3 q4 q5 => hq τ a q1 q2 q3 q4 (fun p _ => q5 p))
theorem s_dropOldest {σ : z_S} {Q : z_S → Prop} (h : z_his σ 5 5) (hq : ∀ τ, z_his τ 4 5 → (∀ j, j < 4 → zg_r τ j = zg_r σ (j + 1)) → (∀ p, p ≠ 27 → zg_i τ p = zg_i σ p) → zg_l τ = zg_l σ → Q τ) : w_X2_dropOldest σ Q := by
  obtain ⟨h1, h5, hn, h27, hnone, f, hf, hinj⟩ := h
  have hb : ∀ (τ : z_S) (j : Nat), zg_n τ = zg_n σ → j < 5 → z_blk (81 + 26 * f j) τ := fun τ j e hj => z_blk_h (by rw [e]; exact hn) (hf j hj).2
  unfold w_X2_dropOldest
  refine ⟨z_vin (i := 0) (by omega) (by omega), fun q => ?_, fun b q => ?_⟩
  · rw [show (0 : Int32).toNatClampNeg = 0 from rfl, (hf 0 (by omega)).1] at q
    cases q
  rw [show (0 : Int32).toNatClampNeg = 0 from rfl, (hf 0 (by omega)).1] at q
  obtain rfl := Option.some.inj q
  show wb_X2_dropOldest_9 Q (w_X2_dropOldest_9 Q 399) _ 1 _
  unfold wb_X2_dropOldest_9
  refine z_ifn (by decide) ⟨z_vin (i := 1) (by omega) (by omega), fun q => ?_, fun b q => ?_⟩
  · rw [show (1 : Int32).toNatClampNeg = 1 from rfl, (hf 1 (by omega)).1] at q
    cases q
  rw [show (1 : Int32).toNatClampNeg = 1 from rfl, (hf 1 (by omega)).1] at q
  obtain rfl := Option.some.inj q
  refine ⟨z_vin (i := 0) (by omega) (by omega), hb σ 1 rfl (by omega), ?_⟩
  rintro _ rfl _ rfl
  show wb_X2_dropOldest_9 Q (w_X2_dropOldest_9 Q 398) _ 2 (zs_r σ 0 (some (81 + 26 * f 1)))
  unfold wb_X2_dropOldest_9
  have e2 : zg_r (zs_r σ 0 (some (81 + 26 * f 1))) 2 = some (81 + 26 * f 2) := (hf 2 (by omega)).1
  refine z_ifn (by decide) ⟨z_vin (i := 2) (by omega) (by omega), fun q => ?_, fun b q => ?_⟩
  · rw [show (2 : Int32).toNatClampNeg = 2 from rfl, e2] at q
    cases q
  rw [show (2 : Int32).toNatClampNeg = 2 from rfl, e2] at q
  obtain rfl := Option.some.inj q
  refine ⟨z_vin (i := 1) (by omega) (by omega), hb _ 2 rfl (by omega), ?_⟩
  rintro _ rfl _ rfl
  show wb_X2_dropOldest_9 Q (w_X2_dropOldest_9 Q 397) _ 3 (zs_r (zs_r σ 0 (some (81 + 26 * f 1))) 1 (some (81 + 26 * f 2)))
  unfold wb_X2_dropOldest_9
  have e3 : zg_r (zs_r (zs_r σ 0 (some (81 + 26 * f 1))) 1 (some (81 + 26 * f 2))) 3 = some (81 + 26 * f 3) := (hf 3 (by omega)).1
  refine z_ifn (by decide) ⟨z_vin (i := 3) (by omega) (by omega), fun q => ?_, fun b q => ?_⟩
  · rw [show (3 : Int32).toNatClampNeg = 3 from rfl, e3] at q
    cases q
  rw [show (3 : Int32).toNatClampNeg = 3 from rfl, e3] at q
  obtain rfl := Option.some.inj q
  refine ⟨z_vin (i := 2) (by omega) (by omega), hb _ 3 rfl (by omega), ?_⟩
  rintro _ rfl _ rfl
  show wb_X2_dropOldest_9 Q (w_X2_dropOldest_9 Q 396) _ 4 (zs_r (zs_r (zs_r σ 0 (some (81 + 26 * f 1))) 1 (some (81 + 26 * f 2))) 2 (some (81 + 26 * f 3)))
  unfold wb_X2_dropOldest_9
  have e4 : zg_r (zs_r (zs_r (zs_r σ 0 (some (81 + 26 * f 1))) 1 (some (81 + 26 * f 2))) 2 (some (81 + 26 * f 3))) 4 = some (81 + 26 * f 4) := (hf 4 (by omega)).1
  refine z_ifn (by decide) ⟨z_vin (i := 4) (by omega) (by omega), fun q => ?_, fun b q => ?_⟩
  · rw [show (4 : Int32).toNatClampNeg = 4 from rfl, e4] at q
    cases q
  rw [show (4 : Int32).toNatClampNeg = 4 from rfl, e4] at q
  obtain rfl := Option.some.inj q
  refine ⟨z_vin (i := 3) (by omega) (by omega), hb _ 4 rfl (by omega), ?_⟩
  rintro _ rfl _ rfl
  show wb_X2_dropOldest_9 Q (w_X2_dropOldest_9 Q 395) _ 5 (zs_r (zs_r (zs_r (zs_r σ 0 (some (81 + 26 * f 1))) 1 (some (81 + 26 * f 2))) 2 (some (81 + 26 * f 3))) 3 (some (81 + 26 * f 4)))
  unfold wb_X2_dropOldest_9
  refine z_ifp (by decide) ⟨z_vin (i := 4) (by omega) (by omega), hb _ 0 rfl (by omega), ?_⟩
  rintro _ rfl _ rfl
  rw [show (4 : Int32).toNatClampNeg = 4 from rfl]
  have hr : ∀ j, zg_r (zs_i (zs_r (zs_r (zs_r (zs_r (zs_r σ 0 (some (81 + 26 * f 1))) 1 (some (81 + 26 * f 2))) 2 (some (81 + 26 * f 3))) 3 (some (81 + 26 * f 4))) 4 (some (81 + 26 * f 0))) 27 1 4) j = if j = 4 then some (81 + 26 * f 0) else if j = 3 then some (81 + 26 * f 4) else if j = 2 then some (81 + 26 * f 3) else if j = 1 then some (81 + 26 * f 2) else if j = 0 then some (81 + 26 * f 1) else zg_r σ j := fun j => rfl
  refine hq _ ⟨by omega, h5, hn, zs_i_at, fun j hj => ?_, fun j => if j = 4 then f 0 else f (j + 1), fun j hj => ?_, fun i j hi hj e => ?_⟩ (fun j hj => ?_) (fun p hp => zs_i_ne hp) rfl
  · show zg_r (zs_i _ 27 1 4) j = none
    rw [hr, if_neg (by omega), if_neg (by omega), if_neg (by omega), if_neg (by omega), if_neg (by omega)]
    exact hnone j hj
  · show zg_r (zs_i _ 27 1 4) j = _ ∧ _
    rw [hr]
    rcases (show j = 0 ∨ j = 1 ∨ j = 2 ∨ j = 3 ∨ j = 4 by omega) with rfl | rfl | rfl | rfl | rfl
    · exact ⟨rfl, (hf 1 (by omega)).2⟩
    · exact ⟨rfl, (hf 2 (by omega)).2⟩
    · exact ⟨rfl, (hf 3 (by omega)).2⟩
    · exact ⟨rfl, (hf 4 (by omega)).2⟩
    · exact ⟨rfl, (hf 0 (by omega)).2⟩
  · simp only at e
    by_cases ei : i = 4 <;> by_cases ej : j = 4
    · omega
    · rw [if_pos ei, if_neg ej] at e
      have := hinj 0 (j + 1) (by omega) (by omega) e
      omega
    · rw [if_neg ei, if_pos ej] at e
      have := hinj (i + 1) 0 (by omega) (by omega) e
      omega
    · rw [if_neg ei, if_neg ej] at e
      have := hinj (i + 1) (j + 1) (by omega) (by omega) e
      omega
  · show zg_r (zs_i _ 27 1 4) j = _
    rw [hr, (hf (j + 1) (by omega)).1]
    rcases (show j = 0 ∨ j = 1 ∨ j = 2 ∨ j = 3 by omega) with rfl | rfl | rfl | rfl <;> rfl
theorem s_push {σ : z_S} {Q : z_S → Prop} {sv a : Nat} (h : z_his σ sv a) (hq : ∀ τ, z_pushed σ sv τ → Q τ) : w_X2_push σ Q := by
  have hsv : sv ≤ 5 := Nat.le_trans h.1 h.2.1
  unfold w_X2_push
  rw [h.2.2.2.1]
  by_cases h5 : sv = 5
  · subst h5
    obtain rfl : a = 5 := by have := h.1; have := h.2.1; omega
    refine z_ifn (by decide) (s_dropOldest h (fun τ q1 q2 q3 q4 => ?_))
    refine s_push12 (s := 4) (by omega) q1 (fun ρ a' p1 p2 p3 p4 p5 => hq ρ ⟨fun j x hx hj => ?_, fun x hx => ?_, ⟨a', p3⟩, fun p hp hp2 => ?_, fun p hp => ?_⟩)
    · have hj : j < 4 := hj
      rw [p1 j x hx hj, if_pos rfl]
      have e : zb τ j = zb σ (j + 1) := by unfold zb; rw [q2 j hj]
      rw [e]
      obtain ⟨-, -, -, -, -, f, hf, -⟩ := h
      have e2 : zb σ (j + 1) = 81 + 26 * f (j + 1) := by unfold zb; rw [(hf (j + 1) (by omega)).1]; rfl
      rw [e2]
      exact zv_eq (fun p h1 _ => q3 p (by omega)) hx
    · show zv ρ (zb ρ 4) x = _
      rw [p2 x hx]
      unfold zv
      simp only [q3 _ (show (1 : Nat) ≠ 27 by decide)]
      by_cases h1 : x < 4
      · rw [if_pos h1, if_pos h1]
      · rw [if_neg h1, if_neg h1]
        by_cases h2 : x < 184
        · rw [if_pos h2, if_pos h2]
          by_cases h3 : (x - 4) % 18 < 5
          · rw [if_pos h3, if_pos h3, q3 _ (by omega)]
          · rw [if_neg h3, if_neg h3, q3 _ (by omega)]
        · rw [if_neg h2, if_neg h2, q3 _ (by omega)]
    · rw [p4 p hp hp2, q3 p hp2]
    · rw [p5 p hp, q4]
  · have e4 : min sv 4 = sv := by omega
    refine z_ifp (nI_lt (b := 5) (by omega) (by decide)) ?_
    refine s_push12 (s := sv) (by omega) h (fun ρ a' p1 p2 p3 p4 p5 => hq ρ ⟨fun j x hx hj => ?_, fun x hx => ?_, ⟨a', ?_⟩, p4, p5⟩)
    · rw [if_neg h5]
      exact p1 j x hx (by omega)
    · rw [e4]
      exact p2 x hx
    · rw [e4]
      exact p3
theorem s_pop {σ : z_S} {Q : z_S → Prop} {s a : Nat} (h : z_his σ (s + 1) a) (hq : ∀ τ, (∀ x, x < 264 → zv τ 1 x = zv σ (zb σ s) x) → (∀ j x, x < 264 → j < s → zv τ (zb τ j) x = zv σ (zb σ j) x) → z_his τ s a → (∀ p, 28 ≤ p → zg_i τ p = zg_i σ p) → zg_i τ 0 = zg_i σ 0 → (∀ x, x ≠ 1 → zg_i τ 27 x = zg_i σ 27 x) → τ.2 = σ.2 → Q τ) : w_X2_pop σ Q := by
  obtain ⟨h1, h5, hn, h27, hnone, f, hf, hinj⟩ := h
  unfold w_X2_pop
  rw [h27]
  refine z_ifp (nI_lt (a := 0) (by omega) (by omega)) ?_
  rintro _ rfl
  rw [show nI (s + 1) - (1 : Int32) = nI s from nI_pred s, zs_i_at, z_tn (by omega)]
  refine ⟨z_vin (by omega) (by omega), fun q => ?_, fun b q => ?_⟩
  · rw [zg_r_si, (hf s (by omega)).1] at q
    cases q
  rw [zg_r_si, (hf s (by omega)).1] at q
  obtain rfl := Option.some.inj q
  have hn2 : zg_n (zs_i σ 27 1 (nI s)) = 81 + 26 * a := hn
  refine ⟨z_blk_1 hn2, s_copyFrom (z_blk_1 hn2) (z_blk_h hn2 (hf s (by omega)).2) (by omega) (fun τ hτ => ?_)⟩
  have hr : zg_r τ = zg_r σ := by
    show τ.2.2.1 = _
    rw [hτ.2.2]
    rfl
  have hb : ∀ j, j < a → zb τ j = 81 + 26 * f j ∧ zb σ j = 81 + 26 * f j := fun j hj => by
    unfold zb
    rw [hr, (hf j hj).1]
    exact ⟨rfl, rfl⟩
  refine hq τ (fun x hx => ?_) (fun j x hx hj => ?_) ⟨by omega, h5, ?_, ?_, by rw [hr]; exact hnone, f, by rw [hr]; exact hf, hinj⟩ (fun p hp => ?_) ?_ (fun x hx => ?_) ?_
  · rw [zv_cpd hτ hx, (hb s (by omega)).2]
    exact zv_eq (fun p h1 _ => zs_i_ne (by omega)) hx
  · rw [(hb j (by omega)).1, (hb j (by omega)).2]
    exact zv_eq (fun p h1 _ => by rw [hτ.2.1 p (by omega)]; exact zs_i_ne (by omega)) hx
  · show τ.2.2.2 = _
    rw [hτ.2.2]
    exact hn
  · rw [hτ.2.1 27 (by omega)]
    exact zs_i_at
  · rw [hτ.2.1 p (by omega)]
    exact zs_i_ne (by omega)
  · rw [hτ.2.1 0 (by omega)]
    exact zs_i_ne (by omega)
  · rw [hτ.2.1 27 (by omega)]
    exact zs_i_nej hx
  · rw [hτ.2.2]
    rfl
