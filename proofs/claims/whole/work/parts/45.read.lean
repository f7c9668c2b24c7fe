/-! calls that record nothing -/
def z_rc (f : Nat → Int32) (c : Nat) (σ : z_S) : Prop := (∀ x, x < 264 → zv σ 1 x = f x) ∧ z_fine f c
def z_rm (f : Nat → Int32) (c : Nat) (σ : z_S) : Prop := (∀ x, x < 264 → zm σ 0 x = f x) ∧ z_fine f c
theorem z_rc_cs {f : Nat → Int32} {c : Nat} {σ τ : z_S} (h : z_rc f c σ) (hm : z_cs σ τ) : z_rc f c τ := ⟨fun x hx => by
  rw [← h.1 x hx]
  exact zv_eq (fun p h1 h2 => hm.1 p (by omega)) hx, h.2⟩
theorem z_rm_ms {f : Nat → Int32} {c : Nat} {σ τ : z_S} (h : z_rm f c σ) (hm : z_ms σ τ) : z_rm f c τ := ⟨fun x hx => by
  rw [← h.1 x hx]
  unfold zm
  rw [hm.1 74 (by omega)], h.2⟩
theorem rc_cnt {f : Nat → Int32} {c : Nat} {σ : z_S} (h : z_rc f c σ) : zg_i σ 1 0 = nI c := by rw [ic_0 h.1 (by omega)]; exact h.2.2.1
theorem rc_par {f : Nat → Int32} {c m : Nat} {σ : z_S} (h : z_rc f c σ) (hm : m < 10) : zg_i σ 2 m = f (4 + 18 * m) := ic_col 0 h.1 (by omega) hm
theorem rm_cnt {f : Nat → Int32} {c : Nat} {σ : z_S} (h : z_rm f c σ) : zg_i σ 74 0 = nI c := by rw [im_at h.1 (by omega)]; exact h.2.2.1
theorem rm_of {σ : z_S} {Q : Int32 → z_S → Prop} {f : Nat → Int32} {m c k : Nat} (h : z_rm f c σ) (hm : m < c) (hk : k < 18) (hq : Q (f (4 + 18 * m + k)) σ) : w_X6_of (nI m) (nI k) σ Q := s_of h.1 (by have := h.2.1; omega) hk hq
theorem op_rd {f : Nat → Int32} {c sv len : Nat} {F : Nat → Nat → Int32} {tx : Nat → Int32} {σ : z_S} {K : Int32 → Int32 → z_S → Prop} {wC : (Int32 → z_S → Prop) → Prop} {wM : z_S → (Int32 → z_S → Prop) → Prop} (r : Int32) (hC : z_IC f sv F len tx σ) (hM : z_IM f sv F len tx σ) (hG : z_GD f c sv F len tx) (h1 : ∀ Q : Int32 → z_S → Prop, (∀ τ, z_cs σ τ → Q r τ) → wC Q) (h2 : ∀ σ1, z_rm f c σ1 → ∀ Q : Int32 → z_S → Prop, (∀ τ, z_ms σ1 τ → Q r τ) → wM σ1 Q) (hK : ∀ r σ2, z_Inv σ2 → K r r σ2) : wC (fun r σ1 => wM σ1 (fun r2 σ2 => K r r2 σ2)) :=
  z_comb hM hG (fun Q hq => h1 Q (fun τ hτ => hq τ (z_IC_cs hC hτ) (z_cs_mf hτ))) (fun σ1 h Q hq => h2 σ1 ⟨h.2.1, hG.1⟩ Q (fun τ hτ => hq τ (z_IM_ms h hτ) (z_ms_cf hτ))) hK
/-- a meter is named -/
theorem op_gm {σ : z_S} {K : Int32 → Int32 → z_S → Prop} {a : Int32} (RC RM : z_S → (Int32 → z_S → Prop) → Prop) (h : z_Inv σ) (hx : ∀ f c m, m < c → a = nI m → z_fine f c → ∃ r : Int32, (∀ σ (Q : Int32 → z_S → Prop), z_rc f c σ → (∀ τ, z_cs σ τ → Q r τ) → RC σ Q) ∧ ∀ σ1 (Q : Int32 → z_S → Prop), z_rm f c σ1 → (∀ τ, z_ms σ1 τ → Q r τ) → RM σ1 Q) (hK : ∀ r σ2, z_Inv σ2 → K r r σ2) :
    (fun Q : Int32 → z_S → Prop => w_X4_has a σ (fun r1 σ2 => if r1 = 0 then Q (-2000000001 : Int32) σ2 else RC σ2 Q)) (fun r σ1 => (fun (σ1 : z_S) (Q : Int32 → z_S → Prop) => w_X6_isMeter a σ1 (fun r1 σ2 => if r1 = 0 then Q (-2000000001 : Int32) σ2 else RM σ2 Q)) σ1 (fun r2 σ2 => K r r2 σ2)) := by
  obtain ⟨f, c, sv, F, len, tx, hC, hM, hG⟩ := h
  have h10 := hG.1.1
  have hrc : z_rc f c σ := ⟨hC.2.1, hG.1⟩
  rcases z_cas a c with ⟨m, hm, rfl⟩ | hn
  · obtain ⟨r, x1, x2⟩ := hx f c m hm rfl hG.1
    refine op_rd (wC := fun Q : Int32 → z_S → Prop => w_X4_has (nI m) σ (fun r1 σ2 => if r1 = 0 then Q (-2000000001 : Int32) σ2 else RC σ2 Q)) (wM := fun (σ1 : z_S) (Q : Int32 → z_S → Prop) => w_X6_isMeter (nI m) σ1 (fun r1 σ2 => if r1 = 0 then Q (-2000000001 : Int32) σ2 else RM σ2 Q)) r hC hM hG (fun Q hq => ?_) (fun σ1 h1 Q hq => ?_) hK
    · exact s_has_y (rc_cnt hrc) h10 hm (z_ifn (by decide) (x1 σ Q hrc hq))
    · exact s_isMeter_y h1.1 h1.2.2.1 h10 hm (z_ifn (by decide) (x2 σ1 Q h1 hq))
  · refine op_rd (wC := fun Q : Int32 → z_S → Prop => w_X4_has a σ (fun r1 σ2 => if r1 = 0 then Q (-2000000001 : Int32) σ2 else RC σ2 Q)) (wM := fun (σ1 : z_S) (Q : Int32 → z_S → Prop) => w_X6_isMeter a σ1 (fun r1 σ2 => if r1 = 0 then Q (-2000000001 : Int32) σ2 else RM σ2 Q)) (-2000000001) hC hM hG (fun Q hq => ?_) (fun σ1 h1 Q hq => ?_) hK
    · exact s_has_n (rc_cnt hrc) h10 hn (z_ifp rfl (hq σ (z_cs_rfl σ)))
    · exact s_isMeter_n h1.1 h1.2.2.1 h10 hn (z_ifp rfl (hq σ1 (z_ms_rfl σ1)))
/-- a meter and an interval are named -/
theorem op_gi {σ : z_S} {K : Int32 → Int32 → z_S → Prop} {a b : Int32} (RC RM : z_S → (Int32 → z_S → Prop) → Prop) (h : z_Inv σ) (hx : ∀ f c m i, m < c → i < 12 → a = nI m → b = nI i → z_fine f c → ∃ r : Int32, (∀ σ (Q : Int32 → z_S → Prop), z_rc f c σ → (∀ τ, z_cs σ τ → Q r τ) → RC σ Q) ∧ ∀ σ1 (Q : Int32 → z_S → Prop), z_rm f c σ1 → (∀ τ, z_ms σ1 τ → Q r τ) → RM σ1 Q) (hK : ∀ r σ2, z_Inv σ2 → K r r σ2) :
    (fun Q : Int32 → z_S → Prop => w_X4_has a σ (fun r1 σ2 => if r1 = 0 then Q (-2000000001 : Int32) σ2 else w_X5_isInterval b σ2 (fun r4 σ5 => if r4 = 0 then Q (-2000000001 : Int32) σ5 else RC σ5 Q))) (fun r σ1 => (fun (σ1 : z_S) (Q : Int32 → z_S → Prop) => w_X6_isInterval a b σ1 (fun r1 σ2 => if r1 = 0 then Q (-2000000001 : Int32) σ2 else RM σ2 Q)) σ1 (fun r2 σ2 => K r r2 σ2)) := by
  obtain ⟨f, c, sv, F, len, tx, hC, hM, hG⟩ := h
  have h10 := hG.1.1
  have hrc : z_rc f c σ := ⟨hC.2.1, hG.1⟩
  rcases z_cas a c with ⟨m, hm, rfl⟩ | hn
  · rcases z_cas b 12 with ⟨i, hi, rfl⟩ | hn2
    · obtain ⟨r, x1, x2⟩ := hx f c m i hm hi rfl rfl hG.1
      refine op_rd (wC := fun Q : Int32 → z_S → Prop => w_X4_has (nI m) σ (fun r1 σ2 => if r1 = 0 then Q (-2000000001 : Int32) σ2 else w_X5_isInterval (nI i) σ2 (fun r4 σ5 => if r4 = 0 then Q (-2000000001 : Int32) σ5 else RC σ5 Q))) (wM := fun (σ1 : z_S) (Q : Int32 → z_S → Prop) => w_X6_isInterval (nI m) (nI i) σ1 (fun r1 σ2 => if r1 = 0 then Q (-2000000001 : Int32) σ2 else RM σ2 Q)) r hC hM hG (fun Q hq => ?_) (fun σ1 h1 Q hq => ?_) hK
      · exact s_has_y (rc_cnt hrc) h10 hm (z_ifn (by decide) (s_isInterval_y hi (z_ifn (by decide) (x1 σ Q hrc hq))))
      · exact sm_isInterval_y h1.1 h1.2.2.1 h10 hm hi (z_ifn (by decide) (x2 σ1 Q h1 hq))
    · refine op_rd (wC := fun Q : Int32 → z_S → Prop => w_X4_has (nI m) σ (fun r1 σ2 => if r1 = 0 then Q (-2000000001 : Int32) σ2 else w_X5_isInterval b σ2 (fun r4 σ5 => if r4 = 0 then Q (-2000000001 : Int32) σ5 else RC σ5 Q))) (wM := fun (σ1 : z_S) (Q : Int32 → z_S → Prop) => w_X6_isInterval (nI m) b σ1 (fun r1 σ2 => if r1 = 0 then Q (-2000000001 : Int32) σ2 else RM σ2 Q)) (-2000000001) hC hM hG (fun Q hq => ?_) (fun σ1 h1 Q hq => ?_) hK
      · exact s_has_y (rc_cnt hrc) h10 hm (z_ifn (by decide) (s_isInterval_n hn2 (z_ifp rfl (hq σ (z_cs_rfl σ)))))
      · exact sm_isInterval_n2 h1.1 h1.2.2.1 h10 hm hn2 (z_ifp rfl (hq σ1 (z_ms_rfl σ1)))
  · refine op_rd (wC := fun Q : Int32 → z_S → Prop => w_X4_has a σ (fun r1 σ2 => if r1 = 0 then Q (-2000000001 : Int32) σ2 else w_X5_isInterval b σ2 (fun r4 σ5 => if r4 = 0 then Q (-2000000001 : Int32) σ5 else RC σ5 Q))) (wM := fun (σ1 : z_S) (Q : Int32 → z_S → Prop) => w_X6_isInterval a b σ1 (fun r1 σ2 => if r1 = 0 then Q (-2000000001 : Int32) σ2 else RM σ2 Q)) (-2000000001) hC hM hG (fun Q hq => ?_) (fun σ1 h1 Q hq => ?_) hK
    · exact s_has_n (rc_cnt hrc) h10 hn (z_ifp rfl (hq σ (z_cs_rfl σ)))
    · exact sm_isInterval_n1 h1.1 h1.2.2.1 h10 hn (z_ifp rfl (hq σ1 (z_ms_rfl σ1)))
/-! advance, status -/
def z_sp (f : Nat → Int32) (m : Nat) : Int32 := nI (10 ^ (f (4 + 18 * m + 2)).toNatClampNeg)
def z_A (f : Nat → Int32) (m a b : Nat) : Int32 := if f (9 + 18 * m + a) = zNONE then zNONE else if f (9 + 18 * m + b) = zNONE then zNONE else if f (9 + 18 * m + b) < f (9 + 18 * m + a) then f (9 + 18 * m + b) - f (9 + 18 * m + a) + z_sp f m else f (9 + 18 * m + b) - f (9 + 18 * m + a)
theorem z_iteQ {P A B : Prop} [Decidable P] {Q : Int32 → z_S → Prop} {a b : Int32} {σ : z_S} (h : Q (if P then a else b) σ) (h1 : P → Q a σ → A) (h2 : ¬ P → Q b σ → B) : if P then A else B := by
  by_cases p : P
  · rw [if_pos p] at h ⊢
    exact h1 p h
  · rw [if_neg p] at h ⊢
    exact h2 p h
theorem rc_adv {f : Nat → Int32} {c m a b : Nat} {σ : z_S} {Q : Int32 → z_S → Prop} (h : z_rc f c σ) (hm : m < c) (ha : a < 13) (hb : b < 13) (hq : Q (z_A f m a b) σ) : w_X4_advance (nI m) (nI a) (nI b) σ Q := by
  have h10 := h.2.1
  obtain ⟨-, -, -, d, hd3, hd6, hd, -⟩ := h.2.2.2.2.2.2.2.2 m hm
  unfold w_X4_advance
  rw [z_tn (by omega), z_tn (by omega), z_tn (by omega), ic_read h.1 ha (by omega), ic_read h.1 hb (by omega)]
  refine ⟨z_vin (by omega) (by omega), z_vin ha (by omega), ?_⟩
  rintro _ rfl
  refine ⟨z_vin (by omega) (by omega), z_vin hb (by omega), ?_⟩
  rintro _ rfl
  unfold z_A at hq
  refine z_iteQ hq (fun _ hq => hq) (fun _ hq => z_iteQ hq (fun _ hq => hq) (fun _ hq => z_iteQ hq (fun _ hq => s_span h.1 (by omega) hd hd3 hd6 ?_) (fun _ hq => hq)))
  unfold z_sp at hq
  rw [hd, z_tn (by omega)] at hq
  exact hq
theorem rm_adv {f : Nat → Int32} {c m a b : Nat} {σ : z_S} {Q : Int32 → z_S → Prop} (h : z_rm f c σ) (hm : m < c) (ha : a < 13) (hb : b < 13) (hq : Q (z_A f m a b) σ) : w_X6_advance (nI m) (nI a) (nI b) σ Q := by
  have h10 := h.2.1
  obtain ⟨-, -, -, d, hd3, hd6, hd, -⟩ := h.2.2.2.2.2.2.2.2 m hm
  unfold w_X6_advance
  refine s_ofr h.1 (by omega) ha (s_ofr h.1 (by omega) hb ?_)
  unfold z_A at hq
  refine z_iteQ hq (fun _ hq => hq) (fun _ hq => z_iteQ hq (fun _ hq => hq) (fun _ hq => ?_))
  by_cases hl : f (9 + 18 * m + b) < f (9 + 18 * m + a)
  · rw [if_pos hl] at hq
    refine z_ifn (fun q => Int32.not_le.mpr hl q) (s_whole h.1 (by omega) hd hd6 ?_)
    unfold z_sp at hq
    rw [hd, z_tn (by omega)] at hq
    exact hq
  · rw [if_neg hl] at hq
    exact z_ifp (Int32.not_lt.mp hl) hq
/-- an advance is NONE or a number -/
theorem z_A_c {f : Nat → Int32} {c m a b : Nat} (h : z_fine f c) (hm : m < c) (ha : a < 13) (hb : b < 13) : z_A f m a b = zNONE ∨ ∃ v, v < 1000000 ∧ z_A f m a b = nI v := by
  obtain ⟨-, -, -, d, hd3, hd6, hd, hr⟩ := h.2.2.2.2.2.2.2 m hm
  have hp := z_p10 hd6
  unfold z_A z_sp
  rw [hd, z_tn (by omega)]
  rcases hr a ha with e1 | ⟨u, hu, e1⟩
  · exact Or.inl (if_pos e1)
  · rcases hr b hb with e2 | ⟨v, hv, e2⟩
    · rw [if_neg (by rw [e1]; exact fun q => absurd q (by
        intro q
        have := Int32.toInt_inj.mpr q
        rw [nI_toInt (by omega), show zNONE.toInt = -2000000000 by decide] at this
        omega)), if_pos e2]
      exact Or.inl rfl
    · have n1 : ∀ w, w < 2 ^ 31 → nI w ≠ zNONE := fun w hw q => by
        have := Int32.toInt_inj.mpr q
        rw [nI_toInt (by omega), show zNONE.toInt = -2000000000 by decide] at this
        omega
      rw [e1, e2, if_neg (n1 u (by omega)), if_neg (n1 v (by omega))]
      refine Or.inr ?_
      by_cases hl : nI v < nI u
      · rw [if_pos hl]
        have := (nI_ltI (by omega) (by omega)).mp hl
        refine ⟨v + 10 ^ d - u, by omega, ?_⟩
        rw [← nI_sub (by omega), ← nI_add, Int32.sub_eq_add_neg, Int32.sub_eq_add_neg, Int32.add_assoc, Int32.add_assoc, Int32.add_comm (-nI u)]
      · rw [if_neg hl]
        have hl2 : u ≤ v := by
          have := Int32.not_lt.mp hl
          exact (nI_leI (by omega) (by omega)).mp this
        exact ⟨v - u, by omega, nI_sub hl2⟩
/-- the status of an interval -/
def z_St (f : Nat → Int32) (m i : Nat) : Int32 :=
  if z_A f m i (i + 1) = zNONE then 1 else if z_A f m i (i + 1) ≤ f (4 + 18 * m + 3) then (if i = 0 then 0 else if i = 11 then 0 else if 10 ≤ z_A f m i (i + 1) then (if z_A f m (i - 1) i = zNONE then 0 else if f (4 + 18 * m + 3) < z_A f m (i - 1) i then 0 else if z_A f m (i + 1) (i + 2) = zNONE then 0 else if z_A f m (i + 1) (i + 2) ≤ f (4 + 18 * m + 3) then (if z_A f m i (i + 1) ≤ f 1 * (if z_A f m (i - 1) i < z_A f m (i + 1) (i + 2) then z_A f m (i + 1) (i + 2) else z_A f m (i - 1) i) then 0 else 3) else 0) else 0) else 2
theorem rc_judge {f : Nat → Int32} {c m i : Nat} {σ : z_S} {Q : Int32 → z_S → Prop} (h : z_rc f c σ) (hm : m < c) (hi : i < 12) (hq : Q (z_St f m i) σ) : w_X4_judge (nI m) (nI i) σ Q := by
  have h10 := h.2.1
  unfold z_St at hq
  unfold w_X4_judge
  rw [nI_1, z_tn (by omega), show nI i + (2 : Int32) = nI (i + 2) by rw [show (2 : Int32) = nI 2 from rfl, nI_add]]
  have e5 : zg_i σ 5 m = f (4 + 18 * m + 3) := ic_col 3 h.1 (by omega) (by omega)
  have e1' : zg_i σ 1 1 = f 1 := ic_0 h.1 (by omega)
  rw [← e5, ← e1'] at hq
  refine rc_adv h hm (by omega) (by omega) (z_iteQ hq (fun _ hq => hq) (fun _ hq => ⟨z_vin (by omega) (by omega), z_iteQ hq (fun _ hq => ?_) (fun _ hq => hq)⟩))
  by_cases e0 : i = 0
  · subst e0
    rw [if_pos rfl] at hq
    exact z_ifp rfl hq
  · rw [if_neg e0] at hq
    refine z_ifn (fun q => e0 ((nI_eq (b := 0) (by omega) (by omega)).mp q)) ?_
    by_cases e1 : i = 11
    · subst e1
      rw [if_pos rfl] at hq
      exact z_ifp rfl hq
    · rw [if_neg e1] at hq
      refine z_ifn (fun q => e1 ((nI_eq (b := 11) (by omega) (by omega)).mp q)) (z_iteQ hq (fun _ hq => ?_) (fun _ hq => hq))
      obtain ⟨k, rfl⟩ : ∃ k, i = k + 1 := ⟨i - 1, by omega⟩
      rw [show nI (k + 1) - (1 : Int32) = nI k from nI_pred k]
      rw [show k + 1 - 1 = k by omega] at hq
      exact rc_adv h hm (by omega) (by omega) (rc_adv h hm (by omega) (by omega) (z_iteQ hq (fun _ hq => hq) (fun _ hq => ⟨z_vin (by omega) (by omega), z_iteQ hq (fun _ hq => hq) (fun _ hq => z_iteQ hq (fun _ hq => hq) (fun _ hq => ⟨z_vin (by omega) (by omega), z_iteQ hq (fun _ hq => z_iteQ hq (fun _ hq => hq) (fun _ hq => hq)) (fun _ hq => hq)⟩))⟩)))
theorem rm_raw {f : Nat → Int32} {c m i : Nat} {σ : z_S} {Q : Int32 → z_S → Prop} (h : z_rm f c σ) (hm : m < c) (hi : i < 12) (hq : Q (z_A f m i (i + 1)) σ) : w_X6_rawOf (nI m) (nI i) σ Q := by
  unfold w_X6_rawOf
  rw [nI_1]
  exact rm_adv h hm (by omega) (by omega) hq
theorem rm_modest {f : Nat → Int32} {c m i : Nat} {σ : z_S} {Q : Int32 → z_S → Prop} (h : z_rm f c σ) (hm : m < c) (hi : i < 12) (hq : Q (if z_A f m i (i + 1) = zNONE then 0 else if f (4 + 18 * m + 3) < z_A f m i (i + 1) then 0 else 1) σ) : w_X6_isModest (nI m) (nI i) σ Q := by
  unfold w_X6_isModest
  exact s_in_y (lo := 0) (hi := 11) (by omega) (by omega) (by omega) (z_ifn (by decide) (rm_raw h hm hi (z_iteQ hq (fun _ hq => ⟨Or.inl rfl, hq⟩) (fun _ hq => rm_raw h hm hi (rm_of (k := 3) h hm (by omega) (z_iteQ hq (fun _ hq => ⟨Or.inl rfl, hq⟩) (fun _ hq => ⟨Or.inr rfl, hq⟩)))))))
theorem rm_modest_n {σ : z_S} {Q : Int32 → z_S → Prop} {m x : Int32} (hx : ∀ i, i < 12 → x ≠ nI i) (hq : Q 0 σ) : w_X6_isModest m x σ Q := by
  unfold w_X6_isModest
  exact s_in_n (lo := 0) (hi := 11) (by omega) (by omega) (fun i _ g => hx i (by omega)) (z_ifp rfl ⟨Or.inl rfl, hq⟩)
theorem z_m1 : ∀ i, i < 12 → nI 0 - 1 ≠ nI i := by
  intro i hi q
  have := Int32.toInt_inj.mpr q
  rw [nI_toInt (by omega), show (nI 0 - 1).toInt = -1 by decide] at this
  omega
theorem z_12 : ∀ i, i < 12 → nI 12 ≠ nI i := fun i hi q => by
  have := (nI_eq (by omega) (by omega)).mp q
  omega
/-- more than the greater one is more than both -/
theorem z_max {r : Int32} {s x y : Nat} (hs : s ≤ 20) (hx : x < 1000000) (hy : y < 1000000) : r ≤ nI s * (if nI x < nI y then nI y else nI x) ↔ r ≤ nI s * nI x ∨ r ≤ nI s * nI y := by
  have b1 : s * x ≤ 20 * 1000000 := Nat.mul_le_mul hs (by omega)
  have b2 : s * y ≤ 20 * 1000000 := Nat.mul_le_mul hs (by omega)
  by_cases hl : nI x < nI y
  · rw [if_pos hl]
    have h2 := (nI_ltI (by omega) (by omega)).mp hl
    refine ⟨Or.inr, fun q => q.elim (fun q => Int32.le_trans q ?_) id⟩
    rw [nI_mul, nI_mul]
    exact (nI_leI (by omega) (by omega)).mpr (Nat.mul_le_mul (Nat.le_refl s) (by omega))
  · rw [if_neg hl]
    have h2 := (nI_leI (by omega) (by omega)).mp (Int32.not_lt.mp hl)
    refine ⟨Or.inl, fun q => q.elim id (fun q => Int32.le_trans q ?_)⟩
    rw [nI_mul, nI_mul]
    exact (nI_leI (by omega) (by omega)).mpr (Nat.mul_le_mul (Nat.le_refl s) (by omega))
theorem rm_status {f : Nat → Int32} {c m i : Nat} {σ : z_S} {Q : Int32 → z_S → Prop} (h : z_rm f c σ) (hm : m < c) (hi : i < 12) (hq : Q (z_St f m i) σ) : w_X6_statusOf (nI m) (nI i) σ Q := by
  have h10 := h.2.1
  unfold w_X6_statusOf
  unfold z_St at hq
  refine rm_raw h hm hi (z_iteQ hq (fun _ hq => hq) (fun hn hq => rm_of (k := 3) h hm (by omega) (z_iteQ hq (fun hl hq => ?_) (fun _ hq => hq))))
  rw [nI_1]
  by_cases e0 : i = 0
  · subst e0
    rw [if_pos rfl] at hq
    exact rm_modest_n z_m1 (z_ifp rfl hq)
  · rw [if_neg e0] at hq
    obtain ⟨k, rfl⟩ : ∃ k, i = k + 1 := ⟨i - 1, by omega⟩
    rw [show nI (k + 1) - (1 : Int32) = nI k from nI_pred k]
    rw [show k + 1 - 1 = k by omega] at hq
    by_cases e1 : k + 1 = 11
    · obtain rfl : k = 10 := by omega
      rw [if_pos rfl] at hq
      refine rm_modest h hm (by omega) ?_
      by_cases q0 : (if z_A f m 10 (10 + 1) = zNONE then (0 : Int32) else if f (4 + 18 * m + 3) < z_A f m 10 (10 + 1) then 0 else 1) = 0
      · exact z_ifp q0 hq
      · exact z_ifn q0 (rm_modest_n z_12 (z_ifp rfl hq))
    · rw [if_neg e1] at hq
      have hb := z_A_c h.2 hm (a := k) (b := k + 1) (by omega) (by omega)
      have hh := z_A_c h.2 hm (a := k + 1 + 1) (b := k + 1 + 2) (by omega) (by omega)
      refine rm_modest h hm (by omega) ?_
      by_cases b1 : z_A f m k (k + 1) = zNONE
      · rw [if_pos b1]
        rw [if_pos b1, ite_self] at hq
        exact z_ifp rfl hq
      · rw [if_neg b1]
        rw [if_neg b1] at hq
        by_cases b2 : f (4 + 18 * m + 3) < z_A f m k (k + 1)
        · rw [if_pos b2]
          rw [if_pos b2, ite_self] at hq
          exact z_ifp rfl hq
        · rw [if_neg b2]
          rw [if_neg b2] at hq
          refine z_ifn (by decide) (rm_modest h hm (by omega) ?_)
          by_cases c1 : z_A f m (k + 1 + 1) (k + 1 + 2) = zNONE
          · rw [if_pos c1]
            rw [if_pos c1, ite_self] at hq
            exact z_ifp rfl hq
          · rw [if_neg c1]
            rw [if_neg c1] at hq
            by_cases c2 : z_A f m (k + 1 + 1) (k + 1 + 2) ≤ f (4 + 18 * m + 3)
            · rw [if_neg (fun q => Int32.not_lt.mpr c2 q)]
              rw [if_pos c2] at hq
              refine z_ifn (by decide) (z_iteQ hq (fun _ hq => ?_) (fun _ hq => hq))
              refine ⟨z_vin (i := 1) (by omega) (by omega), rm_raw h hm (by omega) ?_⟩
              rw [show (1 : Int32).toNatClampNeg = 1 from rfl, im_at h.1 (by omega)]
              obtain ⟨s, hs2, hs20, es⟩ := h.2.2.2.1
              rcases hb with hb | ⟨x, hx, ex⟩
              · exact absurd hb b1
              · rcases hh with hh | ⟨y, hy, ey⟩
                · exact absurd hh c1
                · have mx := z_max (r := z_A f m (k + 1) (k + 1 + 1)) hs20 hx hy
                  rw [← ex, ← ey, ← es] at mx
                  by_cases l1 : z_A f m (k + 1) (k + 1 + 1) ≤ f 1 * z_A f m k (k + 1)
                  · rw [if_pos (mx.mpr (Or.inl l1))] at hq
                    exact z_ifp l1 hq
                  · refine z_ifn l1 ⟨z_vin (i := 1) (by omega) (by omega), rm_raw h hm (by omega) ?_⟩
                    by_cases l2 : z_A f m (k + 1) (k + 1 + 1) ≤ f 1 * z_A f m (k + 1 + 1) (k + 1 + 2)
                    · rw [if_pos (mx.mpr (Or.inr l2))] at hq
                      exact z_ifp l2 hq
                    · rw [if_neg (fun q => (mx.mp q).elim l1 l2)] at hq
                      exact z_ifn l2 hq
            · rw [if_pos (Int32.not_le.mp c2)]
              rw [if_neg c2, ite_self] at hq
              exact z_ifp rfl hq
theorem op_raw {σ : z_S} {K : Int32 → Int32 → z_S → Prop} (a b : Int32) (h : z_Inv σ) (hK : ∀ r σ2, z_Inv σ2 → K r r σ2) : w_X5_raw a b σ (fun r σ1 => w_X6_raw a b σ1 (fun r2 σ2 => K r r2 σ2)) := by
  unfold w_X5_raw w_X6_raw
  refine op_gi (fun σ Q => w_X4_advance a b (b + 1) σ Q) (fun σ Q => w_X6_rawOf a b σ Q) h ?_ hK
  rintro f c m i hm hi rfl rfl hf
  refine ⟨z_A f m i (i + 1), fun σ Q hr hq => ?_, fun σ1 Q hr hq => rm_raw hr hm hi (hq σ1 (z_ms_rfl σ1))⟩
  show w_X4_advance (nI m) (nI i) (nI i + 1) σ Q
  rw [nI_1]
  exact rc_adv hr hm (by omega) (by omega) (hq σ (z_cs_rfl σ))
theorem op_status {σ : z_S} {K : Int32 → Int32 → z_S → Prop} (a b : Int32) (h : z_Inv σ) (hK : ∀ r σ2, z_Inv σ2 → K r r σ2) : w_X5_status a b σ (fun r σ1 => w_X6_status a b σ1 (fun r2 σ2 => K r r2 σ2)) := by
  unfold w_X5_status w_X6_status
  refine op_gi (fun σ Q => w_X4_judge a b σ Q) (fun σ Q => w_X6_statusOf a b σ Q) h ?_ hK
  rintro f c m i hm hi rfl rfl hf
  exact ⟨z_St f m i, fun σ Q hr hq => rc_judge hr hm hi (hq σ (z_cs_rfl σ)), fun σ1 Q hr hq => rm_status hr hm hi (hq σ1 (z_ms_rfl σ1))⟩
