/-! whole texts -/
def z_aft (tx : Nat → Int32) (len : Nat) (k : Nat → Nat ⊕ List (Nat × Nat × Option Nat)) (p : Nat) : Nat ⊕ List (Nat × Nat × Option Nat) := if len ≤ z_bs tx len p then .inr [] else if tx (z_bs tx len p) = 59 then k (z_bs tx len p + 1) else .inl (z_bs tx len p)
def z_cons (e : Nat × Nat × Option Nat) : Nat ⊕ List (Nat × Nat × Option Nat) → Nat ⊕ List (Nat × Nat × Option Nat)
  | .inl F => .inl F
  | .inr l => .inr (e :: l)
def z_par (tx : Nat → Int32) (len c : Nat) (sp : Nat → Nat) : Nat → Nat → Nat ⊕ List (Nat × Nat × Option Nat)
  | 0, p => .inl p
  | d + 1, p => match z_ent tx len c sp p with
    | .inl F => .inl F
    | .inr x => z_cons x.1 (z_aft tx len (z_par tx len c sp d) x.2)
section ZPA
variable {tx : Nat → Int32} {len c : Nat} {sp : Nat → Nat}
theorem z_par_l {d p F : Nat} (h : z_ent tx len c sp p = .inl F) : z_par tx len c sp (d + 1) p = .inl F := by
  show (match z_ent tx len c sp p with | .inl F => _ | .inr x => _) = _
  rw [h]
theorem z_par_r {d p p' : Nat} {e : Nat × Nat × Option Nat} (h : z_ent tx len c sp p = .inr (e, p')) : z_par tx len c sp (d + 1) p = z_cons e (z_aft tx len (z_par tx len c sp d) p') := by
  show (match z_ent tx len c sp p with | .inl F => _ | .inr x => _) = _
  rw [h]
theorem z_ent_r {p p' : Nat} {e : Nat × Nat × Option Nat} (hp : p ≤ len) (h : z_ent tx len c sp p = .inr (e, p')) : z_eok c sp e ∧ p + 5 ≤ p' ∧ p' ≤ len := by
  rcases z_ent_c (tx := tx) (len := len) (c := c) (sp := sp) hp with ⟨F, h1, -⟩ | ⟨e', p'', h1, h2, h3, h4⟩
  · rw [h] at h1
    cases h1
  · rw [h] at h1
    cases h1
    exact ⟨h2, h3, h4⟩
theorem z_ent_l {p F : Nat} (hp : p ≤ len) (h : z_ent tx len c sp p = .inl F) : F ≤ len := by
  rcases z_ent_c (tx := tx) (len := len) (c := c) (sp := sp) hp with ⟨F', h1, h2⟩ | ⟨e', p'', h1, h2, h3, h4⟩
  · rw [h] at h1
    cases h1
    exact h2
  · rw [h] at h1
    cases h1
theorem z_par_c : ∀ d p, p ≤ len → (∃ F, z_par tx len c sp d p = .inl F ∧ F ≤ len) ∨ ∃ l, z_par tx len c sp d p = .inr l ∧ ∀ e, e ∈ l → z_eok c sp e := by
  intro d
  induction d with
  | zero => exact fun p hp => Or.inl ⟨p, rfl, hp⟩
  | succ d ih =>
    intro p hp
    cases h : z_ent tx len c sp p with
    | inl F => exact Or.inl ⟨F, z_par_l h, z_ent_l hp h⟩
    | inr x =>
      obtain ⟨e, p'⟩ := x
      obtain ⟨h1, h2, h3⟩ := z_ent_r hp h
      rw [z_par_r h]
      have hb := z_bs_b (tx := tx) h3
      unfold z_aft
      by_cases g : len ≤ z_bs tx len p'
      · rw [if_pos g]
        refine Or.inr ⟨[e], rfl, fun e' he => ?_⟩
        rw [List.mem_singleton.mp he]
        exact h1
      · rw [if_neg g]
        by_cases g2 : tx (z_bs tx len p') = 59
        · rw [if_pos g2]
          rcases ih (z_bs tx len p' + 1) (by omega) with ⟨F, k1, k2⟩ | ⟨l, k1, k2⟩
          · rw [k1]
            exact Or.inl ⟨F, rfl, k2⟩
          · rw [k1]
            refine Or.inr ⟨e :: l, rfl, fun e' he => ?_⟩
            rcases List.mem_cons.mp he with rfl | he
            · exact h1
            · exact k2 _ he
        · rw [if_neg g2]
          exact Or.inl ⟨_, rfl, hb.2⟩
end ZPA
def z_spn (f : Nat → Int32) (m : Nat) : Nat := 10 ^ (f (4 + 18 * m + 2)).toNatClampNeg
/-! the class's entries -/
def z_pk (t : Nat) (σ τ : z_S) : Prop := (∀ p x, ¬ (p = 68 ∧ 5 ≤ x ∧ x ≤ 7) → ¬ (70 ≤ p ∧ p ≤ 72 ∧ x = t) → zg_i τ p x = zg_i σ p x) ∧ zg_r τ = zg_r σ ∧ zg_n τ = zg_n σ
theorem z_pk_tr {t : Nat} {σ τ ρ : z_S} (h1 : z_pk t σ τ) (h2 : z_pk t τ ρ) : z_pk t σ ρ := ⟨fun p x h g => (h2.1 p x h g).trans (h1.1 p x h g), h2.2.1.trans h1.2.1, h2.2.2.trans h1.2.2⟩
theorem z_pk_6 {t : Nat} {σ τ : z_S} (h : z_p6 σ τ) : z_pk t σ τ := ⟨fun p x h1 _ => h.1 p x (by omega), h.2⟩
theorem z_pk_cs {t : Nat} {σ τ : z_S} (h : z_pk t σ τ) : z_cs σ τ := ⟨fun p hp => funext fun x => h.1 p x (by omega) (by omega), h.1 68 1 (by omega) (by omega), h.2.1, h.2.2⟩
def z_ea (τ : z_S) (t : Nat) (e : Nat × Nat × Option Nat) : Prop := zg_i τ 70 t = nI e.1 ∧ zg_i τ 71 t = nI e.2.1 ∧ zg_i τ 72 t = z_ov e.2.2
def z_el (τ : z_S) : Nat → List (Nat × Nat × Option Nat) → Prop
  | _, [] => True
  | t, e :: l => z_ea τ t e ∧ z_el τ (t + 1) l
theorem z_el_eq {σ τ : z_S} (h : ∀ p, 70 ≤ p → p ≤ 72 → zg_i τ p = zg_i σ p) : ∀ l t, z_el σ t l → z_el τ t l := by
  intro l
  induction l with
  | nil => exact fun _ _ => trivial
  | cons e l ih =>
    intro t hl
    obtain ⟨⟨h1, h2, h3⟩, h4⟩ := hl
    exact ⟨⟨by rw [h 70 (by omega) (by omega)]; exact h1, by rw [h 71 (by omega) (by omega)]; exact h2, by rw [h 72 (by omega) (by omega)]; exact h3⟩, ih _ h4⟩
def z_es (t : Nat) (σ τ : z_S) : Prop := ∀ j, j < t → zg_i τ 70 j = zg_i σ 70 j ∧ zg_i τ 71 j = zg_i σ 71 j ∧ zg_i τ 72 j = zg_i σ 72 j
theorem s_keep {t : Nat} {σ : z_S} {Q : z_S → Prop} (e : Nat × Nat × Option Nat) (ht : zg_i σ 68 5 = nI t) (h24 : t < 24) (hq : ∀ τ, z_pk t σ τ → zg_i τ 68 5 = nI (t + 1) → zg_i τ 68 6 = zg_i σ 68 6 → z_ea τ t e → Q τ) : w_X3_keep (nI e.1) (nI e.2.1) (z_ov e.2.2) σ Q := by
  unfold w_X3_keep
  rw [ht, z_tn (by omega)]
  refine z_ifn (nI_ge (b := 24) h24 (by omega)) ⟨z_vin h24 (by omega), ?_⟩
  rintro _ rfl
  rw [zs_i_ne (show 68 ≠ 70 by decide), ht, z_tn (by omega)]
  refine ⟨z_vin h24 (by omega), ?_⟩
  rintro _ rfl
  rw [zs_i_ne (show 68 ≠ 71 by decide), zs_i_ne (show 68 ≠ 70 by decide), ht, z_tn (by omega)]
  refine ⟨z_vin h24 (by omega), ?_⟩
  rintro _ rfl _ rfl
  rw [zs_i_ne (show 68 ≠ 72 by decide), zs_i_ne (show 68 ≠ 71 by decide), zs_i_ne (show 68 ≠ 70 by decide), ht, nI_1]
  refine hq _ ⟨fun p x h1 h2 => ?_, rfl, rfl⟩ zs_i_at ?_ ⟨?_, ?_, ?_⟩
  · rw [zg_i_si, if_neg (by omega), zg_i_si, if_neg (by omega), zg_i_si, if_neg (by omega), zg_i_si, if_neg (by omega)]
  · rw [zs_i_nej (by decide), zs_i_ne (show 68 ≠ 72 by decide), zs_i_ne (show 68 ≠ 71 by decide), zs_i_ne (show 68 ≠ 70 by decide)]
  · rw [zs_i_ne (show 70 ≠ 68 by decide), zs_i_ne (show 70 ≠ 72 by decide), zs_i_ne (show 70 ≠ 71 by decide), zs_i_at]
  · rw [zs_i_ne (show 71 ≠ 68 by decide), zs_i_ne (show 71 ≠ 72 by decide), zs_i_at]
  · rw [zs_i_ne (show 72 ≠ 68 by decide), zs_i_at]
theorem rc_ent {f : Nat → Int32} {c t len p : Nat} {tx : Nat → Int32} {sp : Nat → Nat} {σ : z_S} {Q : Int32 → z_S → Prop} (hl : len ≤ 120) (hb : ∀ j, j < len → ∃ b, b < 256 ∧ tx j = nI b) (h : z_rc f c σ) (ht : z_tc len tx σ) (hsp : ∀ m, m < c → sp m = z_spn f m) (hp : zg_i σ 68 6 = nI p) (hp2 : p ≤ len) (ht5 : zg_i σ 68 5 = nI t) (ht24 : t < 24)
    (hF : ∀ F, z_ent tx len c sp p = .inl F → ∀ τ, z_cs σ τ → zg_i τ 68 7 = nI F → Q 0 τ) (hS : ∀ e p', z_ent tx len c sp p = .inr (e, p') → ∀ τ, z_pk t σ τ → zg_i τ 68 5 = nI (t + 1) → zg_i τ 68 6 = nI p' → z_ea τ t e → Q 1 τ) : w_X3_parseEntry σ Q := by
  have h10 := h.2.1
  unfold w_X3_parseEntry
  rw [rc_cnt h]
  refine s_tnC hl hb ht (by omega) hp hp2 (fun m p1 e1 τ1 g1 k1 => ?_) (fun e1 τ1 g1 k1 => ?_)
  · obtain ⟨a1, -, -, a3⟩ := z_num_c hp2 e1
    refine s_has_y (rc_cnt (z_rc_cs h (z_p6_cs g1))) h10 a1 (z_ifn (by decide) (s_tsC (by decide) hl (z_tc_p6 ht g1) k1 a3 (fun s1 τ2 g2 k2 => ?_) (fun s1 τ2 g2 k2 => z_ifp rfl ⟨Or.inl rfl, hF _ (z_ent_2 e1 s1) τ2 (z_p6_cs (z_p6_tr g1 g2)) k2⟩)))
    have G2 := z_p6_tr g1 g2
    have q1 : z_bs tx len p1 + 1 ≤ len := s1.1
    refine z_ifn (by decide) (s_tnC (B := 13) hl hb (z_tc_p6 ht G2) (by omega) k2 q1 (fun b p2 e2 τ3 g3 k3 => ?_) (fun e2 τ3 g3 k3 => z_ifp (by decide) ⟨Or.inl rfl, hF _ (z_ent_3 e1 s1 e2) τ3 (z_p6_cs (z_p6_tr G2 g3)) k3⟩))
    obtain ⟨c1, -, -, c3⟩ := z_num_c q1 e2
    have G3 := z_p6_tr G2 g3
    refine z_ifn (nI_pos (by omega)) (s_tsC (by decide) hl (z_tc_p6 ht G3) k3 c3 (fun s2 τ4 g4 k4 => ?_) (fun s2 τ4 g4 k4 => z_ifp rfl ⟨Or.inl rfl, hF _ (z_ent_4 e1 s1 e2 s2) τ4 (z_p6_cs (z_p6_tr G3 g4)) k4⟩))
    have G4 := z_p6_tr G3 g4
    have q2 : z_bs tx len p2 + 1 ≤ len := s2.1
    refine z_ifn (by decide) (s_skip hl (z_tc_p6 ht G4) k4 q2 (fun τ5 g5 k5 => ?_))
    have G5 := z_p6_tr G4 g5
    have b3 := z_bs_b (tx := tx) q2
    have kp : ∀ (v : Option Nat) p' τ6, z_p6 σ τ6 → zg_i τ6 68 6 = nI p' → z_ent tx len c sp p = .inr ((m, b, v), p') → w_X3_parseEntry_98 Q (nI m) (nI b) (z_ov v) τ6 := by
      intro v p' τ6 g6 k6 e6
      unfold w_X3_parseEntry_98
      exact s_keep (m, b, v) (by rw [g6.1 68 5 (by omega)]; exact ht5) ht24 (fun τ7 g7 k7 k8 k9 => ⟨Or.inr rfl, hS _ _ e6 τ7 (z_pk_tr (z_pk_6 g6) g7) k7 (k8.trans k6) k9⟩)
    have num : ¬ z_sign tx len 45 (z_bs tx len p2 + 1) → w_X4_span (nI m) τ5 (fun r20 σ21 => w_X3_takeNumber r20 σ21 (fun r22 σ23 => if 0 ≤ r22 then (w_X3_parseEntry_98 Q (nI m) (nI b) r22 σ23) else (((0 : Int32) = 0 ∨ (0 : Int32) = 1) ∧ Q (0 : Int32) σ23))) := by
      intro g3
      obtain ⟨-, -, -, d, hd3, hd6, hd, -⟩ := h.2.2.2.2.2.2.2.2 m a1
      have hs : sp m = 10 ^ d := by
        rw [hsp m a1]
        unfold z_spn
        rw [hd, z_tn (by omega)]
      have h6 := z_p10b hd6
      refine s_span (z_rc_cs h (z_p6_cs G5)).1 (by omega) hd hd3 hd6 ?_
      rw [← hs]
      refine s_tnC hl hb (z_tc_p6 ht G5) (by omega) k5 b3.2 (fun v p3 e3 τ6 g6 k6 => ?_) (fun e3 τ6 g6 k6 => ?_)
      · rw [z_num_i (sp m) q2] at e3
        have := (z_num_c q2 e3).2.1
        exact z_ifp (nI_pos' (by omega)) (kp (some v) p3 τ6 (z_p6_tr G5 g6) k6 (z_ent_7 e1 s1 e2 s2 g3 e3))
      · rw [z_num_i (sp m) q2] at e3
        rw [z_bs_i q2] at k6
        exact z_ifn (by decide) ⟨Or.inl rfl, hF _ (z_ent_6 e1 s1 e2 s2 g3 e3) τ6 (z_p6_cs (z_p6_tr G5 g6)) k6⟩
    by_cases hlt : z_bs tx len (z_bs tx len p2 + 1) < len
    · refine s_peek_y hl (z_tc_p6 ht G5) k5 hlt ?_
      by_cases e45 : tx (z_bs tx len (z_bs tx len p2 + 1)) = 45
      · refine z_ifp e45 ?_
        rintro _ rfl
        rw [k5, nI_1]
        exact kp none _ _ (z_p6_tr G5 (z_p6_i (by omega))) zs_i_at (z_ent_5 e1 s1 e2 s2 ⟨hlt, e45⟩)
      · exact z_ifn e45 (num (fun g => e45 g.2))
    · exact s_peek_n hl (z_tc_p6 ht G5) k5 (by omega) (by omega) (z_ifn (by decide) (num (fun g => hlt g.1)))
  · refine s_has_n (rc_cnt (z_rc_cs h (z_p6_cs g1))) h10 (fun m hm e => ?_) (z_ifp rfl ⟨Or.inl rfl, hF _ (z_ent_1 e1) τ1 (z_p6_cs g1) k1⟩)
    have := nI_pos (n := m) (by omega)
    rw [← e] at this
    exact this (by decide)
theorem l_parC {f : Nat → Int32} {c len : Nat} {tx : Nat → Int32} {sp : Nat → Nat} {σ : z_S} {Q : Int32 → z_S → Prop} (hl : len ≤ 120) (hb : ∀ j, j < len → ∃ b, b < 256 ∧ tx j = nI b) (h : z_rc f c σ) (ht : z_tc len tx σ) (hsp : ∀ m, m < c → sp m = z_spn f m) : ∀ d t p n, len < p + 6 * d → 6 * t ≤ p → p ≤ len → d < n → ∀ τ, z_cs σ τ → zg_i τ 68 6 = nI p → zg_i τ 68 5 = nI t →
    (∀ F, z_par tx len c sp d p = .inl F → ∀ ρ, z_cs σ ρ → Q (nI F) ρ) → (∀ l, z_par tx len c sp d p = .inr l → t + l.length ≤ 21 → ∀ ρ, z_cs σ ρ → zg_i ρ 68 5 = nI (t + l.length) → z_es t τ ρ → z_el ρ t l → Q (-2000000000) ρ) → w_X3_parse_12 Q n (nI t) τ := by
  intro d
  induction d with
  | zero =>
    intro t p n h1 _ h2
    omega
  | succ d ih =>
    intro t p n h1 h2 h3 hn τ hτ hpos h5 hF hS
    obtain ⟨n, rfl⟩ : ∃ k, n = k + 1 := ⟨n - 1, by omega⟩
    show wb_X3_parse_12 Q (w_X3_parse_12 Q n) _ _
    unfold wb_X3_parse_12
    refine z_ifn (nI_ge (a := t) (b := 120) (by omega) (by omega)) (rc_ent hl hb (z_rc_cs h hτ) (z_tc_cs ht hτ) hsp hpos h3 h5 (by omega) (fun F e ρ hρ k => ?_) (fun e p' he ρ hρ k5 k6 kea => ?_))
    · refine z_ifp rfl ?_
      rw [k]
      exact hF F (z_par_l e) ρ (z_cs_tr hτ hρ)
    · obtain ⟨-, a2, a3⟩ := z_ent_r h3 he
      rw [z_par_r he] at hF hS
      have hcs := z_cs_tr hτ (z_pk_cs hρ)
      have hb' := z_bs_b (tx := tx) a3
      have es : z_es t τ ρ := fun j hj => ⟨hρ.1 70 j (by omega) (by omega), hρ.1 71 j (by omega) (by omega), hρ.1 72 j (by omega) (by omega)⟩
      refine z_ifn (by decide) (s_skip hl (z_tc_cs ht hcs) k6 a3 (fun τ2 g2 k2 => ?_))
      have hcs2 := z_cs_tr hcs (z_p6_cs g2)
      have tc2 := z_tc_cs ht hcs2
      have ea2 : z_ea τ2 t e := ⟨by rw [g2.1 70 t (by omega)]; exact kea.1, by rw [g2.1 71 t (by omega)]; exact kea.2.1, by rw [g2.1 72 t (by omega)]; exact kea.2.2⟩
      have es2 : z_es t τ τ2 := fun j hj => ⟨(g2.1 70 j (by omega)).trans (es j hj).1, (g2.1 71 j (by omega)).trans (es j hj).2.1, (g2.1 72 j (by omega)).trans (es j hj).2.2⟩
      have k52 : zg_i τ2 68 5 = nI (t + 1) := by rw [g2.1 68 5 (by omega)]; exact k5
      by_cases hend : len ≤ z_bs tx len p'
      · have ea : z_aft tx len (z_par tx len c sp d) p' = .inr [] := if_pos hend
        rw [ea] at hS
        refine z_ifn ?_ (hS [e] rfl (show t + 1 ≤ 21 by omega) τ2 hcs2 k52 es2 ⟨ea2, trivial⟩)
        rw [k2, tc2.1]
        exact nI_nlt hend (by omega)
      · refine z_ifp ?_ (s_tsC (by decide) hl tc2 k2 hb'.2 (fun s1 τ3 g3 k3 => ?_) (fun s1 τ3 g3 k3 => ?_))
        · rw [k2, tc2.1]
          exact nI_lt (by omega) (by omega)
        · have s2 : tx (z_bs tx len p') = 59 := by
            have := s1.2
            rw [z_bs_i a3] at this
            exact this
          rw [z_bs_i a3] at k3
          have ea : z_aft tx len (z_par tx len c sp d) p' = z_par tx len c sp d (z_bs tx len p' + 1) := (if_neg hend).trans (if_pos s2)
          rw [ea] at hF hS
          refine z_ifn (by decide) ?_
          rintro _ rfl
          rw [nI_1]
          refine ih (t + 1) (z_bs tx len p' + 1) n (by omega) (by omega) (by omega) (by omega) τ3 (z_cs_tr hcs2 (z_p6_cs g3)) k3 (by rw [g3.1 68 5 (by omega)]; exact k52) (fun F hF' ρ2 hρ2 => hF F (by rw [hF']; rfl) ρ2 hρ2) (fun l hl' hlen ρ2 hρ2 kk ess ell => ?_)
          refine hS (e :: l) (by rw [hl']; rfl) (by show t + (l.length + 1) ≤ 21; omega) ρ2 hρ2 (by show _ = nI (t + (l.length + 1)); rw [kk]; congr 1; omega) (fun j hj => ?_) ⟨⟨?_, ?_, ?_⟩, ell⟩
          · have w := ess j (by omega)
            exact ⟨(w.1.trans (g3.1 70 j (by omega))).trans (es2 j hj).1, (w.2.1.trans (g3.1 71 j (by omega))).trans (es2 j hj).2.1, (w.2.2.trans (g3.1 72 j (by omega))).trans (es2 j hj).2.2⟩
          · rw [(ess t (by omega)).1, g3.1 70 t (by omega)]
            exact ea2.1
          · rw [(ess t (by omega)).2.1, g3.1 71 t (by omega)]
            exact ea2.2.1
          · rw [(ess t (by omega)).2.2, g3.1 72 t (by omega)]
            exact ea2.2.2
        · have s2 : ¬ tx (z_bs tx len p') = 59 := fun q => s1 (by
            refine ⟨?_, ?_⟩
            · rw [z_bs_i a3]
              omega
            · rw [z_bs_i a3]
              exact q)
          rw [z_bs_i a3] at k3
          have ea : z_aft tx len (z_par tx len c sp d) p' = .inl (z_bs tx len p') := (if_neg hend).trans (if_neg s2)
          rw [ea] at hF
          refine z_ifp rfl ?_
          rw [k3]
          exact hF _ rfl τ3 (z_cs_tr hcs2 (z_p6_cs g3))
theorem s_parC {f : Nat → Int32} {c len : Nat} {tx : Nat → Int32} {sp : Nat → Nat} {σ : z_S} {Q : Int32 → z_S → Prop} (hl : len ≤ 120) (hb : ∀ j, j < len → ∃ b, b < 256 ∧ tx j = nI b) (h : z_rc f c σ) (ht : z_tc len tx σ) (hsp : ∀ m, m < c → sp m = z_spn f m)
    (hF : ∀ F, z_par tx len c sp 21 0 = .inl F → ∀ ρ, z_cs σ ρ → Q (nI F) ρ) (hS : ∀ l, z_par tx len c sp 21 0 = .inr l → l.length ≤ 21 → ∀ ρ, z_cs σ ρ → zg_i ρ 68 5 = nI l.length → z_el ρ 0 l → Q (-2000000000) ρ) : w_X3_parse σ Q := by
  unfold w_X3_parse
  rintro _ rfl _ rfl
  have cs : z_cs σ (zs_i (zs_i σ 68 6 0) 68 5 0) := ⟨fun p hp => by rw [zs_i_ne (by omega), zs_i_ne (by omega)], by rw [zs_i_nej (by decide), zs_i_nej (by decide)], rfl, rfl⟩
  have := l_parC (Q := Q) hl hb h ht hsp 21 0 0 400 (by omega) (by omega) (by omega) (by omega) _ cs (by rw [zs_i_nej (by decide), zs_i_at]; exact nI_0.symm) (by rw [zs_i_at]; exact nI_0.symm) hF (fun l h1 h2 ρ hρ k _ kel => hS l h1 (by omega) ρ hρ (by rw [k, Nat.zero_add]) kel)
  rw [nI_0] at this
  exact this
/-! the class sets -/
def z_upd (f : Nat → Int32) (e : Nat × Nat × Option Nat) : Nat → Int32 := z_fup f (9 + 18 * e.1 + e.2.1) (z_ov e.2.2)
def z_app (f : Nat → Int32) (l : List (Nat × Nat × Option Nat)) : Nat → Int32 := l.foldl z_upd f
def z_c1 (k : Nat) : Option Nat → Nat
  | none => k
  | some _ => k + 1
def z_cn (k : Nat) (l : List (Nat × Nat × Option Nat)) : Nat := l.foldl (fun k e => z_c1 k e.2.2) k
theorem z_upd_n {f : Nat → Int32} {e : Nat × Nat × Option Nat} {m : Nat} (he : e.2.1 < 13) : z_upd f e (4 + 18 * m + 2) = f (4 + 18 * m + 2) := z_fup_ne _ _ (by omega)
theorem z_upd_s {f : Nat → Int32} {e : Nat × Nat × Option Nat} (he : e.2.1 < 13) (m : Nat) : z_spn (z_upd f e) m = z_spn f m := by
  unfold z_spn
  rw [z_upd_n he]
theorem z_upd_f {f : Nat → Int32} {c : Nat} {sp : Nat → Nat} {e : Nat × Nat × Option Nat} (h : z_fine f c) (hsp : ∀ m, m < c → sp m = z_spn f m) (he : z_eok c sp e) : z_fine (z_upd f e) c := by
  obtain ⟨h1, h2, h3⟩ := he
  refine fine_read h h2 h1 ?_
  obtain ⟨-, -, -, d, hd3, hd6, hd, -⟩ := h.2.2.2.2.2.2.2 e.1 h1
  cases ev : e.2.2 with
  | none => exact Or.inl rfl
  | some v =>
    refine Or.inr ⟨d, v, hd, hd6, ?_, rfl⟩
    have := (h3 v ev).1
    rw [hsp _ h1] at this
    unfold z_spn at this
    rw [hd, z_tn (by omega)] at this
    exact this
theorem z_app_f {c : Nat} {sp : Nat → Nat} : ∀ (l : List (Nat × Nat × Option Nat)) (f : Nat → Int32), z_fine f c → (∀ m, m < c → sp m = z_spn f m) → (∀ e, e ∈ l → z_eok c sp e) → z_fine (z_app f l) c := by
  intro l
  induction l with
  | nil => exact fun f h _ _ => h
  | cons e l ih =>
    intro f h hsp hl
    have he := hl e (List.mem_cons_self ..)
    exact ih (z_upd f e) (z_upd_f h hsp he) (fun m hm => by rw [z_upd_s he.2.1]; exact hsp m hm) (fun e' h' => hl e' (List.mem_cons_of_mem _ h'))
theorem l_apC {c sv len : Nat} {F : Nat → Nat → Int32} {tx : Nat → Int32} {sp : Nat → Nat} {σ : z_S} {Q : Int32 → z_S → Prop} : ∀ (l : List (Nat × Nat × Option Nat)) (j k n : Nat), l.length < n → j + l.length ≤ 21 → (∀ e, e ∈ l → z_eok c sp e) → ∀ (f : Nat → Int32) (τ : z_S), z_IC f sv F len tx τ → z_fine f c → (∀ m, m < c → sp m = z_spn f m) → z_mf σ τ → zg_i τ 68 5 = nI (j + l.length) → z_el τ j l → (∀ ρ, z_IC (z_app f l) sv F len tx ρ → z_mf σ ρ → Q (nI (z_cn k l)) ρ) → w_X3_apply_4 Q n (nI k) (nI j) τ := by
  intro l
  induction l with
  | nil =>
    intro j k n hn h21 _ f τ hIC hf hsp hmf h5 _ hq
    obtain ⟨n, rfl⟩ : ∃ k, n = k + 1 := ⟨n - 1, by omega⟩
    show wb_X3_apply_4 Q (w_X3_apply_4 Q n) _ _ _
    unfold wb_X3_apply_4
    rw [h5]
    exact z_ifp (nI_le (Nat.le_refl j) (by have : j + 0 ≤ 21 := h21; omega)) (hq τ hIC hmf)
  | cons e l ih =>
    intro j k n hn h21 hok f τ hIC hf hsp hmf h5 hel hq
    obtain ⟨m, b, v⟩ := e
    have hlen : ((m, b, v) :: l).length = l.length + 1 := rfl
    rw [hlen] at hn h21 h5
    have he := hok (m, b, v) (List.mem_cons_self ..)
    obtain ⟨hm, hb, hv⟩ := he
    have hm : m < c := hm
    have hb : b < 13 := hb
    have h10 := hf.1
    obtain ⟨⟨q1, q2, q3⟩, hel'⟩ := hel
    have q1 : zg_i τ 70 j = nI m := q1
    have q2 : zg_i τ 71 j = nI b := q2
    have q3 : zg_i τ 72 j = z_ov v := q3
    obtain ⟨n, rfl⟩ : ∃ k, n = k + 1 := ⟨n - 1, by omega⟩
    show wb_X3_apply_4 Q (w_X3_apply_4 Q n) _ _ _
    unfold wb_X3_apply_4
    rw [h5, z_tn (by omega), q1, q2]
    refine z_ifn (nI_ge (by omega) (by omega)) ⟨z_vin (by omega) (by omega), ?_⟩
    rintro _ rfl
    refine ⟨z_vin (by omega) (by omega), ?_⟩
    rintro _ rfl
    have hcc : zg_i τ 1 0 = nI c := by rw [ic_0 hIC.2.1 (by omega)]; exact hf.2.1
    refine s_has_y hcc h10 hm (z_ifn (by decide) (s_isBoundary_y hb (z_ifn (by decide) ⟨z_vin (by omega) (by omega), z_vin (by omega) (by omega), z_vin hb (by omega), ?_⟩)))
    rintro _ rfl
    rw [z_tn (by omega), z_tn (by omega), q3]
    have hIC2 : z_IC (z_upd f (m, b, v)) sv F len tx (zs_i τ (8 + m) b (z_ov v)) := ic_setr hIC hb (by omega)
    have go : ∀ k', k' = z_c1 k v → w_X3_apply_75 (w_X3_apply_4 Q n) Q (nI k') (nI j) (zs_i τ (8 + m) b (z_ov v)) := by
      rintro _ rfl
      unfold w_X3_apply_75
      rintro _ rfl
      rw [nI_1]
      refine ih (j + 1) (z_c1 k v) n (by omega) (by omega) (fun e' h' => hok e' (List.mem_cons_of_mem _ h')) (z_upd f (m, b, v)) _ hIC2 (z_upd_f hf hsp ⟨hm, hb, hv⟩) (fun m' hm' => by rw [z_upd_s hb]; exact hsp m' hm') (z_mf_tr hmf (z_mf_i (by omega))) ?_ (z_el_eq (fun p p1 p2 => zs_i_ne (by omega)) l (j + 1) hel') hq
      rw [zs_i_ne (by omega), h5]
      congr 1
      omega
    unfold w_X3_apply_61
    rw [z_tn (by omega), zs_i_ne (show 72 ≠ 8 + m by omega), q3]
    refine ⟨z_vin (by omega) (by omega), ?_⟩
    cases v with
    | none => exact z_ifp rfl (go k rfl)
    | some v =>
      have hv0 := (hv v rfl).2
      refine z_ifn (fun q => ?_) ?_
      · have := nI_pos (n := v) (by omega)
        rw [show nI v = -2000000000 from q] at this
        exact this (by decide)
      · rintro _ rfl
        rw [nI_1]
        exact go (k + 1) rfl
