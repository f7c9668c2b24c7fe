theorem dX0_claimByEnergy_0 : decode cX0_claimByEnergy 0 = .ok (.lconst 0, 1) := by decide +kernel
theorem dX0_claimByEnergy_1 : decode cX0_claimByEnergy 1 = .ok (.lstore 5, 2) := by decide +kernel
theorem dX0_claimByEnergy_3 : decode cX0_claimByEnergy 3 = .ok (.iload_n 3, 1) := by decide +kernel
theorem dX0_claimByEnergy_4 : decode cX0_claimByEnergy 4 = .ok (.iconst 1, 1) := by decide +kernel
theorem dX0_claimByEnergy_5 : decode cX0_claimByEnergy 5 = .ok (.iadd, 1) := by decide +kernel
theorem dX0_claimByEnergy_6 : decode cX0_claimByEnergy 6 = .ok (.istore 7, 2) := by decide +kernel
theorem dX0_claimByEnergy_8 : decode cX0_claimByEnergy 8 = .ok (.iload 7, 2) := by decide +kernel
theorem dX0_claimByEnergy_10 : decode cX0_claimByEnergy 10 = .ok (.aload_n 1, 1) := by decide +kernel
theorem dX0_claimByEnergy_11 : decode cX0_claimByEnergy 11 = .ok (.getfield 26, 3) := by decide +kernel
theorem dX0_claimByEnergy_14 : decode cX0_claimByEnergy 14 = .ok (.if_icmp .ge 59, 3) := by decide +kernel
theorem dX0_claimByEnergy_17 : decode cX0_claimByEnergy 17 = .ok (.aload_n 1, 1) := by decide +kernel
theorem dX0_claimByEnergy_18 : decode cX0_claimByEnergy 18 = .ok (.getfield 63, 3) := by decide +kernel
theorem dX0_claimByEnergy_21 : decode cX0_claimByEnergy 21 = .ok (.iload 7, 2) := by decide +kernel
theorem dX0_claimByEnergy_23 : decode cX0_claimByEnergy 23 = .ok (.iaload, 1) := by decide +kernel
theorem dX0_claimByEnergy_24 : decode cX0_claimByEnergy 24 = .ok (.iload_n 3, 1) := by decide +kernel
theorem dX0_claimByEnergy_25 : decode cX0_claimByEnergy 25 = .ok (.if_icmp .ne 42, 3) := by decide +kernel
theorem dX0_claimByEnergy_28 : decode cX0_claimByEnergy 28 = .ok (.aload_n 0, 1) := by decide +kernel
theorem dX0_claimByEnergy_29 : decode cX0_claimByEnergy 29 = .ok (.getfield 16, 3) := by decide +kernel
theorem dX0_claimByEnergy_32 : decode cX0_claimByEnergy 32 = .ok (.iload 7, 2) := by decide +kernel
theorem dX0_claimByEnergy_34 : decode cX0_claimByEnergy 34 = .ok (.aload_n 1, 1) := by decide +kernel
theorem dX0_claimByEnergy_35 : decode cX0_claimByEnergy 35 = .ok (.getfield 77, 3) := by decide +kernel
theorem dX0_claimByEnergy_38 : decode cX0_claimByEnergy 38 = .ok (.iload 7, 2) := by decide +kernel
theorem dX0_claimByEnergy_40 : decode cX0_claimByEnergy 40 = .ok (.iaload, 1) := by decide +kernel
theorem dX0_claimByEnergy_41 : decode cX0_claimByEnergy 41 = .ok (.i2l, 1) := by decide +kernel
theorem dX0_claimByEnergy_42 : decode cX0_claimByEnergy 42 = .ok (.aload_n 2, 1) := by decide +kernel
theorem dX0_claimByEnergy_43 : decode cX0_claimByEnergy 43 = .ok (.getfield 38, 3) := by decide +kernel
theorem dX0_claimByEnergy_46 : decode cX0_claimByEnergy 46 = .ok (.iload 7, 2) := by decide +kernel
theorem dX0_claimByEnergy_48 : decode cX0_claimByEnergy 48 = .ok (.aaload, 1) := by decide +kernel
theorem dX0_claimByEnergy_49 : decode cX0_claimByEnergy 49 = .ok (.iload 4, 2) := by decide +kernel
theorem dX0_claimByEnergy_51 : decode cX0_claimByEnergy 51 = .ok (.iaload, 1) := by decide +kernel
theorem dX0_claimByEnergy_52 : decode cX0_claimByEnergy 52 = .ok (.i2l, 1) := by decide +kernel
theorem dX0_claimByEnergy_53 : decode cX0_claimByEnergy 53 = .ok (.lmul, 1) := by decide +kernel
theorem dX0_claimByEnergy_54 : decode cX0_claimByEnergy 54 = .ok (.lastore, 1) := by decide +kernel
theorem dX0_claimByEnergy_55 : decode cX0_claimByEnergy 55 = .ok (.lload 5, 2) := by decide +kernel
theorem dX0_claimByEnergy_57 : decode cX0_claimByEnergy 57 = .ok (.aload_n 0, 1) := by decide +kernel
theorem dX0_claimByEnergy_58 : decode cX0_claimByEnergy 58 = .ok (.getfield 16, 3) := by decide +kernel
theorem dX0_claimByEnergy_61 : decode cX0_claimByEnergy 61 = .ok (.iload 7, 2) := by decide +kernel
theorem dX0_claimByEnergy_63 : decode cX0_claimByEnergy 63 = .ok (.laload, 1) := by decide +kernel
theorem dX0_claimByEnergy_64 : decode cX0_claimByEnergy 64 = .ok (.ladd, 1) := by decide +kernel
theorem dX0_claimByEnergy_65 : decode cX0_claimByEnergy 65 = .ok (.lstore 5, 2) := by decide +kernel
theorem dX0_claimByEnergy_67 : decode cX0_claimByEnergy 67 = .ok (.iinc 7 1, 3) := by decide +kernel
theorem dX0_claimByEnergy_70 : decode cX0_claimByEnergy 70 = .ok (.goto (-62), 3) := by decide +kernel
theorem dX0_claimByEnergy_73 : decode cX0_claimByEnergy 73 = .ok (.lload 5, 2) := by decide +kernel
theorem dX0_claimByEnergy_75 : decode cX0_claimByEnergy 75 = .ok (.lreturn, 1) := by decide +kernel
abbrev rm_X0_claimByEnergy : Room := { frames := 0, cells := 0, slots := 0, locals := 0 }
theorem hy_X0_claimByEnergy : yX0_claimByEnergy.cls ≠ "java/lang/invoke/MethodHandle" ∧ yX0_claimByEnergy.cls ≠ "java/lang/invoke/VarHandle" ∧ (parseMethodDescriptor yX0_claimByEnergy.desc).map (fun d => d.parameters.length) = some 4 := by decide +kernel
def w_X0_claimByEnergy_67 (k8 : Int32 → Int32 → Int64 → Int32 → z_S → Prop) (Q : Int64 → z_S → Prop) (x3 : Int32) (x4 : Int32) (x5 : Int64) (x7 : Int32) (σ : z_S) : Prop :=
  ∀ y5 : Int32, y5 = (x7 + (1 : Int32)) → k8 x3 x4 x5 y5 σ
def wb_X0_claimByEnergy_8  (Q : Int64 → z_S → Prop) (k8 : Int32 → Int32 → Int64 → Int32 → z_S → Prop) (x3 : Int32) (x4 : Int32) (x5 : Int64) (x7 : Int32) (σ : z_S) : Prop :=
  if (zg_i σ 1 0) ≤ x7 then (Q x5 σ) else (vp_in x7 10 ∧ if (zg_i σ 2 x7.toNatClampNeg) = x3 then (vp_in x7 10 ∧ vp_in x7 10 ∧ vp_in x4 12 ∧ vp_in x7 10 ∧ ∀ σ10 : z_S, σ10 = zs_l σ 65 x7.toNatClampNeg (((zg_i σ 6 x7.toNatClampNeg).toInt64) * ((zg_i σ (31 + x7.toNatClampNeg) x4.toNatClampNeg).toInt64)) → vp_in x7 10 ∧ ∀ y12 : Int64, y12 = (x5 + (zg_l σ10 65 x7.toNatClampNeg)) → w_X0_claimByEnergy_67 k8 Q x3 x4 y12 x7 σ10) else (w_X0_claimByEnergy_67 k8 Q x3 x4 x5 x7 σ))
def w_X0_claimByEnergy_8  (Q : Int64 → z_S → Prop) : Nat → Int32 → Int32 → Int64 → Int32 → z_S → Prop
  | 0 => fun _ _ _ _ _ => False
  | n + 1 => wb_X0_claimByEnergy_8  Q (w_X0_claimByEnergy_8  Q n)
def w_X0_claimByEnergy (a3 : Int32) (a4 : Int32) (σ : z_S) (Q : Int64 → z_S → Prop) : Prop :=
  ∀ y1 : Int32, y1 = (a3 + (1 : Int32)) → w_X0_claimByEnergy_8 Q 400 a3 a4 (0 : Int64) y1 σ
set_option maxHeartbeats 4000000 in
set_option maxRecDepth 100000 in
theorem t_X0_claimByEnergy_67 {l : Launch} {D : va_G} {cI cJ cM cS : ClassId} {n0 : Nat} {p : Program} {e : Env} {s : State} {m : MethodId} {args : Array Value} {below : List Frame} {meth : Method} {c : Code} {k8 : Int32 → Int32 → Int64 → Int32 → z_S → Prop} {Q : Int64 → z_S → Prop} (hX : z_X D cI cJ cM cS p s m args c cX0_claimByEnergy 8 yX0_claimByEnergy.cls) (hY : z_Y s meth (some .long)) (hk8 : ∀ (x3 : Int32) (x4 : Int32) (x5 : Int64) (x7 : Int32) (σ : z_S), k8 x3 x4 x5 x7 σ → z_t D cI cJ cM cS n0 p l e rm_X0_claimByEnergy s m args below meth c 8 (MQ below (va_Ql Q (fun u t => z_Bq D cI cJ cM cS n0 u t) (z_Ab n0)) args s 0 0 (z_Ab n0)) 0 0 8 [(0, .ref (n0 + 53)), (1, .ref (n0 + 1)), (2, .ref (n0 + 29)), (3, .int x3), (4, .int x4), (5, .long x5), (7, .int x7)] [] σ) (x3 : Int32) (x4 : Int32) (x5 : Int64) (x7 : Int32) (σ : z_S) (hf : w_X0_claimByEnergy_67 k8 Q x3 x4 x5 x7 σ) : z_t D cI cJ cM cS n0 p l e rm_X0_claimByEnergy s m args below meth c 8 (MQ below (va_Ql Q (fun u t => z_Bq D cI cJ cM cS n0 u t) (z_Ab n0)) args s 0 0 (z_Ab n0)) 0 0 67 [(0, .ref (n0 + 53)), (1, .ref (n0 + 1)), (2, .ref (n0 + 29)), (3, .int x3), (4, .int x4), (5, .long x5), (7, .int x7)] [] σ := by
  unfold w_X0_claimByEnergy_67 at hf
  obtain ⟨y5, e5⟩ : ∃ y : Int32, y = (x7 + (1 : Int32)) := ⟨_, rfl⟩
  replace hf := hf y5 e5
  refine zt_iinc (L' := [(7, .int y5), (0, .ref (n0 + 53)), (1, .ref (n0 + 1)), (2, .ref (n0 + 29)), (3, .int x3), (4, .int x4), (5, .long x5)]) hX 6 dX0_claimByEnergy_67 rfl (v := y5) (by rw [e5]; rfl) (by decide) rfl ?_
  refine zt_goto hX dX0_claimByEnergy_70 (tgt := 8) (by decide) ?_
  exact zt_sub [1, 2, 3, 4, 5, 6, 0] rfl (hk8 _ _ _ _ _ hf)
set_option maxHeartbeats 4000000 in
set_option maxRecDepth 100000 in
theorem t_X0_claimByEnergy_8 {l : Launch} {D : va_G} {cI cJ cM cS : ClassId} {n0 : Nat} {p : Program} {e : Env} {s : State} {m : MethodId} {args : Array Value} {below : List Frame} {meth : Method} {c : Code}  {Q : Int64 → z_S → Prop} (hX : z_X D cI cJ cM cS p s m args c cX0_claimByEnergy 8 yX0_claimByEnergy.cls) (hY : z_Y s meth (some .long))  : ∀ (n : Nat) (x3 : Int32) (x4 : Int32) (x5 : Int64) (x7 : Int32) (σ : z_S), w_X0_claimByEnergy_8  Q n x3 x4 x5 x7 σ → z_t D cI cJ cM cS n0 p l e rm_X0_claimByEnergy s m args below meth c 8 (MQ below (va_Ql Q (fun u t => z_Bq D cI cJ cM cS n0 u t) (z_Ab n0)) args s 0 0 (z_Ab n0)) 0 0 8 [(0, .ref (n0 + 53)), (1, .ref (n0 + 1)), (2, .ref (n0 + 29)), (3, .int x3), (4, .int x4), (5, .long x5), (7, .int x7)] [] σ := by
  intro n
  induction n with
  | zero => intro _ _ _ _ _ hf; exact hf.elim
  | succ n ih8 =>
    intro x3 x4 x5 x7 σ hf
    have hf : wb_X0_claimByEnergy_8  Q (w_X0_claimByEnergy_8  Q n) x3 x4 x5 x7 σ := hf
    unfold wb_X0_claimByEnergy_8 at hf
    refine zt_iload hX 6 dX0_claimByEnergy_8 rfl ?_
    refine zt_aload_n hX 1 dX0_claimByEnergy_10 rfl rfl ?_
    refine zt_get_X4 hX (by decide) (zE_1 _ _) 0 (by decide) kw_89 rfl rfl dX0_claimByEnergy_11 ?_
    refine zt_icmp_ge hX dX0_claimByEnergy_14 (tgt := 73) (by decide) (fun c2 => ?_) (fun c2 => ?_)
    · replace hf := z_pos hf c2
      refine zt_lload hX 5 dX0_claimByEnergy_73 rfl ?_
      exact zt_lret hX hY dX0_claimByEnergy_75 hf
    · replace hf := z_neg hf c2
      refine zt_aload_n hX 1 dX0_claimByEnergy_17 rfl rfl ?_
      refine zt_get_X4 hX (by decide) (zE_1 _ _) 4 (by decide) kw_101 rfl rfl dX0_claimByEnergy_18 ?_
      refine zt_iload hX 6 dX0_claimByEnergy_21 rfl ?_
      obtain ⟨h3, hf⟩ := hf
      refine zt_iaload hX dX0_claimByEnergy_23 (by decide) rfl h3 ?_
      refine zt_iload_n hX 3 dX0_claimByEnergy_24 rfl rfl ?_
      refine zt_icmp_ne hX dX0_claimByEnergy_25 (tgt := 67) (by decide) (fun c4 => ?_) (fun c4 => ?_)
      · replace hf := z_neg hf c4
        exact zt_sub [0, 1, 2, 3, 4, 5, 6] rfl (t_X0_claimByEnergy_67 hX hY ih8 _ _ _ _ _ hf)
      · replace hf := z_pos hf c4
        refine zt_aload_n hX 0 dX0_claimByEnergy_28 rfl rfl ?_
        refine zt_get_X0 hX (by decide) (zE_53 _ _) 1 (by decide) kw_188 rfl rfl dX0_claimByEnergy_29 ?_
        refine zt_iload hX 6 dX0_claimByEnergy_32 rfl ?_
        refine zt_aload_n hX 1 dX0_claimByEnergy_34 rfl rfl ?_
        refine zt_get_X4 hX (by decide) (zE_1 _ _) 8 (by decide) kw_113 rfl rfl dX0_claimByEnergy_35 ?_
        refine zt_iload hX 6 dX0_claimByEnergy_38 rfl ?_
        obtain ⟨h6, hf⟩ := hf
        refine zt_iaload hX dX0_claimByEnergy_40 (by decide) rfl h6 ?_
        refine zt_i2l hX dX0_claimByEnergy_41 ?_
        refine zt_aload_n hX 2 dX0_claimByEnergy_42 rfl rfl ?_
        refine zt_get_X1 hX (by decide) (zE_29 _ _) 0 (by decide) kw_167 rfl rfl dX0_claimByEnergy_43 ?_
        refine zt_iload hX 6 dX0_claimByEnergy_46 rfl ?_
        obtain ⟨h7, hf⟩ := hf
        refine zt_aaloadM hX dX0_claimByEnergy_48 (by decide) rfl (k1 := 31) rfl h7 ?_
        refine zt_iload hX 4 dX0_claimByEnergy_49 rfl ?_
        obtain ⟨h8, hf⟩ := hf
        refine zt_iaload hX dX0_claimByEnergy_51 (z_row31 (z_lt h7)) (z_sh31 (z_lt h7)) h8 ?_
        refine zt_i2l hX dX0_claimByEnergy_52 ?_
        refine zt_lmul hX dX0_claimByEnergy_53 ?_
        obtain ⟨h9, hf⟩ := hf
        refine zt_lastore hX dX0_claimByEnergy_54 (by decide) rfl h9 ?_
        refine zt_nms (fun σ10 d10 => ?_)
        replace hf := hf σ10 d10
        refine zt_lload hX 5 dX0_claimByEnergy_55 rfl ?_
        refine zt_aload_n hX 0 dX0_claimByEnergy_57 rfl rfl ?_
        refine zt_get_X0 hX (by decide) (zE_53 _ _) 1 (by decide) kw_188 rfl rfl dX0_claimByEnergy_58 ?_
        refine zt_iload hX 6 dX0_claimByEnergy_61 rfl ?_
        obtain ⟨h11, hf⟩ := hf
        refine zt_laload hX dX0_claimByEnergy_63 (by decide) rfl h11 ?_
        refine zt_ladd hX dX0_claimByEnergy_64 ?_
        refine zt_nml (fun y12 e12 => ?_)
        replace hf := hf y12 e12
        refine zt_lstore (L' := [(5, .long y12), (0, .ref (n0 + 53)), (1, .ref (n0 + 1)), (2, .ref (n0 + 29)), (3, .int x3), (4, .int x4), (7, .int x7)]) hX dX0_claimByEnergy_65 (by decide) rfl ?_
        exact zt_sub [1, 2, 3, 4, 5, 0, 6] rfl (t_X0_claimByEnergy_67 hX hY ih8 _ _ _ _ _ hf)
set_option maxHeartbeats 4000000 in
set_option maxRecDepth 100000 in
theorem c_X0_claimByEnergy {l : Launch} {D : va_G} {cI cJ cM cS : ClassId} {n0 : Nat} {a3 : Int32} {a4 : Int32} {σ : z_S} {Q : Int64 → z_S → Prop} (hf : w_X0_claimByEnergy a3 a4 σ Q) : z_cl l D cI cJ cM cS n0 yX0_claimByEnergy cX0_claimByEnergy 8 .long rm_X0_claimByEnergy 0 0 [.ref (n0 + 53), .ref (n0 + 1), .ref (n0 + 29), .int a3, .int a4] σ Q := by
  refine z_ofl (by decide +kernel) (Nat.le_of_ble_eq_true rfl) (fun p e s m args below meth c hX hY => ?_)
  unfold w_X0_claimByEnergy at hf
  refine zt_L (L' := [(0, .ref (n0 + 53)), (1, .ref (n0 + 1)), (2, .ref (n0 + 29)), (3, .int a3), (4, .int a4)]) rfl ?_
  refine zt_lconst hX dX0_claimByEnergy_0 (v := (0 : Int64)) (by decide) ?_
  refine zt_lstore (L' := [(5, .long (0 : Int64)), (0, .ref (n0 + 53)), (1, .ref (n0 + 1)), (2, .ref (n0 + 29)), (3, .int a3), (4, .int a4)]) hX dX0_claimByEnergy_1 (by decide) rfl ?_
  refine zt_iload_n hX 4 dX0_claimByEnergy_3 rfl rfl ?_
  refine zt_iconst hX dX0_claimByEnergy_4 (v := (1 : Int32)) (by decide) ?_
  refine zt_iadd hX dX0_claimByEnergy_5 ?_
  refine zt_nmi (fun y1 e1 => ?_)
  replace hf := hf y1 e1
  refine zt_istore (L' := [(7, .int y1), (5, .long (0 : Int64)), (0, .ref (n0 + 53)), (1, .ref (n0 + 1)), (2, .ref (n0 + 29)), (3, .int a3), (4, .int a4)]) hX dX0_claimByEnergy_6 (by decide) rfl ?_
  exact zt_sub [2, 3, 4, 5, 6, 1, 0] rfl (t_X0_claimByEnergy_8 hX hY 400 _ _ _ _ _ hf)

theorem dX0_claimByWeight_0 : decode cX0_claimByWeight 0 = .ok (.lconst 0, 1) := by decide +kernel
theorem dX0_claimByWeight_1 : decode cX0_claimByWeight 1 = .ok (.lstore_n 3, 1) := by decide +kernel
theorem dX0_claimByWeight_2 : decode cX0_claimByWeight 2 = .ok (.iload_n 2, 1) := by decide +kernel
theorem dX0_claimByWeight_3 : decode cX0_claimByWeight 3 = .ok (.iconst 1, 1) := by decide +kernel
theorem dX0_claimByWeight_4 : decode cX0_claimByWeight 4 = .ok (.iadd, 1) := by decide +kernel
theorem dX0_claimByWeight_5 : decode cX0_claimByWeight 5 = .ok (.istore 5, 2) := by decide +kernel
theorem dX0_claimByWeight_7 : decode cX0_claimByWeight 7 = .ok (.iload 5, 2) := by decide +kernel
theorem dX0_claimByWeight_9 : decode cX0_claimByWeight 9 = .ok (.aload_n 1, 1) := by decide +kernel
theorem dX0_claimByWeight_10 : decode cX0_claimByWeight 10 = .ok (.getfield 26, 3) := by decide +kernel
theorem dX0_claimByWeight_13 : decode cX0_claimByWeight 13 = .ok (.if_icmp .ge 45, 3) := by decide +kernel
theorem dX0_claimByWeight_16 : decode cX0_claimByWeight 16 = .ok (.aload_n 1, 1) := by decide +kernel
theorem dX0_claimByWeight_17 : decode cX0_claimByWeight 17 = .ok (.getfield 63, 3) := by decide +kernel
theorem dX0_claimByWeight_20 : decode cX0_claimByWeight 20 = .ok (.iload 5, 2) := by decide +kernel
theorem dX0_claimByWeight_22 : decode cX0_claimByWeight 22 = .ok (.iaload, 1) := by decide +kernel
theorem dX0_claimByWeight_23 : decode cX0_claimByWeight 23 = .ok (.iload_n 2, 1) := by decide +kernel
theorem dX0_claimByWeight_24 : decode cX0_claimByWeight 24 = .ok (.if_icmp .ne 28, 3) := by decide +kernel
theorem dX0_claimByWeight_27 : decode cX0_claimByWeight 27 = .ok (.aload_n 0, 1) := by decide +kernel
theorem dX0_claimByWeight_28 : decode cX0_claimByWeight 28 = .ok (.getfield 16, 3) := by decide +kernel
theorem dX0_claimByWeight_31 : decode cX0_claimByWeight 31 = .ok (.iload 5, 2) := by decide +kernel
theorem dX0_claimByWeight_33 : decode cX0_claimByWeight 33 = .ok (.aload_n 1, 1) := by decide +kernel
theorem dX0_claimByWeight_34 : decode cX0_claimByWeight 34 = .ok (.getfield 77, 3) := by decide +kernel
theorem dX0_claimByWeight_37 : decode cX0_claimByWeight 37 = .ok (.iload 5, 2) := by decide +kernel
theorem dX0_claimByWeight_39 : decode cX0_claimByWeight 39 = .ok (.iaload, 1) := by decide +kernel
theorem dX0_claimByWeight_40 : decode cX0_claimByWeight 40 = .ok (.i2l, 1) := by decide +kernel
theorem dX0_claimByWeight_41 : decode cX0_claimByWeight 41 = .ok (.lastore, 1) := by decide +kernel
theorem dX0_claimByWeight_42 : decode cX0_claimByWeight 42 = .ok (.lload_n 3, 1) := by decide +kernel
theorem dX0_claimByWeight_43 : decode cX0_claimByWeight 43 = .ok (.aload_n 0, 1) := by decide +kernel
theorem dX0_claimByWeight_44 : decode cX0_claimByWeight 44 = .ok (.getfield 16, 3) := by decide +kernel
theorem dX0_claimByWeight_47 : decode cX0_claimByWeight 47 = .ok (.iload 5, 2) := by decide +kernel
theorem dX0_claimByWeight_49 : decode cX0_claimByWeight 49 = .ok (.laload, 1) := by decide +kernel
theorem dX0_claimByWeight_50 : decode cX0_claimByWeight 50 = .ok (.ladd, 1) := by decide +kernel
theorem dX0_claimByWeight_51 : decode cX0_claimByWeight 51 = .ok (.lstore_n 3, 1) := by decide +kernel
theorem dX0_claimByWeight_52 : decode cX0_claimByWeight 52 = .ok (.iinc 5 1, 3) := by decide +kernel
theorem dX0_claimByWeight_55 : decode cX0_claimByWeight 55 = .ok (.goto (-48), 3) := by decide +kernel
theorem dX0_claimByWeight_58 : decode cX0_claimByWeight 58 = .ok (.lload_n 3, 1) := by decide +kernel
theorem dX0_claimByWeight_59 : decode cX0_claimByWeight 59 = .ok (.lreturn, 1) := by decide +kernel
abbrev rm_X0_claimByWeight : Room := { frames := 0, cells := 0, slots := 0, locals := 0 }
theorem hy_X0_claimByWeight : yX0_claimByWeight.cls ≠ "java/lang/invoke/MethodHandle" ∧ yX0_claimByWeight.cls ≠ "java/lang/invoke/VarHandle" ∧ (parseMethodDescriptor yX0_claimByWeight.desc).map (fun d => d.parameters.length) = some 2 := by decide +kernel
def w_X0_claimByWeight_52 (k7 : Int32 → Int64 → Int32 → z_S → Prop) (Q : Int64 → z_S → Prop) (x2 : Int32) (x3 : Int64) (x5 : Int32) (σ : z_S) : Prop :=
  ∀ y5 : Int32, y5 = (x5 + (1 : Int32)) → k7 x2 x3 y5 σ
def wb_X0_claimByWeight_7  (Q : Int64 → z_S → Prop) (k7 : Int32 → Int64 → Int32 → z_S → Prop) (x2 : Int32) (x3 : Int64) (x5 : Int32) (σ : z_S) : Prop :=
  if (zg_i σ 1 0) ≤ x5 then (Q x3 σ) else (vp_in x5 10 ∧ if (zg_i σ 2 x5.toNatClampNeg) = x2 then (vp_in x5 10 ∧ vp_in x5 10 ∧ ∀ σ8 : z_S, σ8 = zs_l σ 65 x5.toNatClampNeg ((zg_i σ 6 x5.toNatClampNeg).toInt64) → vp_in x5 10 ∧ ∀ y10 : Int64, y10 = (x3 + (zg_l σ8 65 x5.toNatClampNeg)) → w_X0_claimByWeight_52 k7 Q x2 y10 x5 σ8) else (w_X0_claimByWeight_52 k7 Q x2 x3 x5 σ))
def w_X0_claimByWeight_7  (Q : Int64 → z_S → Prop) : Nat → Int32 → Int64 → Int32 → z_S → Prop
  | 0 => fun _ _ _ _ => False
  | n + 1 => wb_X0_claimByWeight_7  Q (w_X0_claimByWeight_7  Q n)
def w_X0_claimByWeight (a2 : Int32) (σ : z_S) (Q : Int64 → z_S → Prop) : Prop :=
  ∀ y1 : Int32, y1 = (a2 + (1 : Int32)) → w_X0_claimByWeight_7 Q 400 a2 (0 : Int64) y1 σ
set_option maxHeartbeats 4000000 in
set_option maxRecDepth 100000 in
theorem t_X0_claimByWeight_52 {l : Launch} {D : va_G} {cI cJ cM cS : ClassId} {n0 : Nat} {p : Program} {e : Env} {s : State} {m : MethodId} {args : Array Value} {below : List Frame} {meth : Method} {c : Code} {k7 : Int32 → Int64 → Int32 → z_S → Prop} {Q : Int64 → z_S → Prop} (hX : z_X D cI cJ cM cS p s m args c cX0_claimByWeight 6 yX0_claimByWeight.cls) (hY : z_Y s meth (some .long)) (hk7 : ∀ (x2 : Int32) (x3 : Int64) (x5 : Int32) (σ : z_S), k7 x2 x3 x5 σ → z_t D cI cJ cM cS n0 p l e rm_X0_claimByWeight s m args below meth c 6 (MQ below (va_Ql Q (fun u t => z_Bq D cI cJ cM cS n0 u t) (z_Ab n0)) args s 0 0 (z_Ab n0)) 0 0 7 [(0, .ref (n0 + 53)), (1, .ref (n0 + 1)), (2, .int x2), (3, .long x3), (5, .int x5)] [] σ) (x2 : Int32) (x3 : Int64) (x5 : Int32) (σ : z_S) (hf : w_X0_claimByWeight_52 k7 Q x2 x3 x5 σ) : z_t D cI cJ cM cS n0 p l e rm_X0_claimByWeight s m args below meth c 6 (MQ below (va_Ql Q (fun u t => z_Bq D cI cJ cM cS n0 u t) (z_Ab n0)) args s 0 0 (z_Ab n0)) 0 0 52 [(0, .ref (n0 + 53)), (1, .ref (n0 + 1)), (2, .int x2), (3, .long x3), (5, .int x5)] [] σ := by
  unfold w_X0_claimByWeight_52 at hf
  obtain ⟨y5, e5⟩ : ∃ y : Int32, y = (x5 + (1 : Int32)) := ⟨_, rfl⟩
  replace hf := hf y5 e5
  refine zt_iinc (L' := [(5, .int y5), (0, .ref (n0 + 53)), (1, .ref (n0 + 1)), (2, .int x2), (3, .long x3)]) hX 4 dX0_claimByWeight_52 rfl (v := y5) (by rw [e5]; rfl) (by decide) rfl ?_
  refine zt_goto hX dX0_claimByWeight_55 (tgt := 7) (by decide) ?_
  exact zt_sub [1, 2, 3, 4, 0] rfl (hk7 _ _ _ _ hf)
set_option maxHeartbeats 4000000 in
set_option maxRecDepth 100000 in
theorem t_X0_claimByWeight_7 {l : Launch} {D : va_G} {cI cJ cM cS : ClassId} {n0 : Nat} {p : Program} {e : Env} {s : State} {m : MethodId} {args : Array Value} {below : List Frame} {meth : Method} {c : Code}  {Q : Int64 → z_S → Prop} (hX : z_X D cI cJ cM cS p s m args c cX0_claimByWeight 6 yX0_claimByWeight.cls) (hY : z_Y s meth (some .long))  : ∀ (n : Nat) (x2 : Int32) (x3 : Int64) (x5 : Int32) (σ : z_S), w_X0_claimByWeight_7  Q n x2 x3 x5 σ → z_t D cI cJ cM cS n0 p l e rm_X0_claimByWeight s m args below meth c 6 (MQ below (va_Ql Q (fun u t => z_Bq D cI cJ cM cS n0 u t) (z_Ab n0)) args s 0 0 (z_Ab n0)) 0 0 7 [(0, .ref (n0 + 53)), (1, .ref (n0 + 1)), (2, .int x2), (3, .long x3), (5, .int x5)] [] σ := by
  intro n
  induction n with
  | zero => intro _ _ _ _ hf; exact hf.elim
  | succ n ih7 =>
    intro x2 x3 x5 σ hf
    have hf : wb_X0_claimByWeight_7  Q (w_X0_claimByWeight_7  Q n) x2 x3 x5 σ := hf
    unfold wb_X0_claimByWeight_7 at hf
    refine zt_iload hX 4 dX0_claimByWeight_7 rfl ?_
    refine zt_aload_n hX 1 dX0_claimByWeight_9 rfl rfl ?_
    refine zt_get_X4 hX (by decide) (zE_1 _ _) 0 (by decide) kw_89 rfl rfl dX0_claimByWeight_10 ?_
    refine zt_icmp_ge hX dX0_claimByWeight_13 (tgt := 58) (by decide) (fun c2 => ?_) (fun c2 => ?_)
    · replace hf := z_pos hf c2
      refine zt_lload_n hX 3 dX0_claimByWeight_58 rfl rfl ?_
      exact zt_lret hX hY dX0_claimByWeight_59 hf
    · replace hf := z_neg hf c2
      refine zt_aload_n hX 1 dX0_claimByWeight_16 rfl rfl ?_
      refine zt_get_X4 hX (by decide) (zE_1 _ _) 4 (by decide) kw_101 rfl rfl dX0_claimByWeight_17 ?_
      refine zt_iload hX 4 dX0_claimByWeight_20 rfl ?_
      obtain ⟨h3, hf⟩ := hf
      refine zt_iaload hX dX0_claimByWeight_22 (by decide) rfl h3 ?_
      refine zt_iload_n hX 2 dX0_claimByWeight_23 rfl rfl ?_
      refine zt_icmp_ne hX dX0_claimByWeight_24 (tgt := 52) (by decide) (fun c4 => ?_) (fun c4 => ?_)
      · replace hf := z_neg hf c4
        exact zt_sub [0, 1, 2, 3, 4] rfl (t_X0_claimByWeight_52 hX hY ih7 _ _ _ _ hf)
      · replace hf := z_pos hf c4
        refine zt_aload_n hX 0 dX0_claimByWeight_27 rfl rfl ?_
        refine zt_get_X0 hX (by decide) (zE_53 _ _) 1 (by decide) kw_188 rfl rfl dX0_claimByWeight_28 ?_
        refine zt_iload hX 4 dX0_claimByWeight_31 rfl ?_
        refine zt_aload_n hX 1 dX0_claimByWeight_33 rfl rfl ?_
        refine zt_get_X4 hX (by decide) (zE_1 _ _) 8 (by decide) kw_113 rfl rfl dX0_claimByWeight_34 ?_
        refine zt_iload hX 4 dX0_claimByWeight_37 rfl ?_
        obtain ⟨h6, hf⟩ := hf
        refine zt_iaload hX dX0_claimByWeight_39 (by decide) rfl h6 ?_
        refine zt_i2l hX dX0_claimByWeight_40 ?_
        obtain ⟨h7, hf⟩ := hf
        refine zt_lastore hX dX0_claimByWeight_41 (by decide) rfl h7 ?_
        refine zt_nms (fun σ8 d8 => ?_)
        replace hf := hf σ8 d8
        refine zt_lload_n hX 3 dX0_claimByWeight_42 rfl rfl ?_
        refine zt_aload_n hX 0 dX0_claimByWeight_43 rfl rfl ?_
        refine zt_get_X0 hX (by decide) (zE_53 _ _) 1 (by decide) kw_188 rfl rfl dX0_claimByWeight_44 ?_
        refine zt_iload hX 4 dX0_claimByWeight_47 rfl ?_
        obtain ⟨h9, hf⟩ := hf
        refine zt_laload hX dX0_claimByWeight_49 (by decide) rfl h9 ?_
        refine zt_ladd hX dX0_claimByWeight_50 ?_
        refine zt_nml (fun y10 e10 => ?_)
        replace hf := hf y10 e10
        refine zt_lstore_n (L' := [(3, .long y10), (0, .ref (n0 + 53)), (1, .ref (n0 + 1)), (2, .int x2), (5, .int x5)]) hX dX0_claimByWeight_51 rfl (by decide) rfl ?_
        exact zt_sub [1, 2, 3, 0, 4] rfl (t_X0_claimByWeight_52 hX hY ih7 _ _ _ _ hf)
set_option maxHeartbeats 4000000 in
set_option maxRecDepth 100000 in
theorem c_X0_claimByWeight {l : Launch} {D : va_G} {cI cJ cM cS : ClassId} {n0 : Nat} {a2 : Int32} {σ : z_S} {Q : Int64 → z_S → Prop} (hf : w_X0_claimByWeight a2 σ Q) : z_cl l D cI cJ cM cS n0 yX0_claimByWeight cX0_claimByWeight 6 .long rm_X0_claimByWeight 0 0 [.ref (n0 + 53), .ref (n0 + 1), .int a2] σ Q := by
  refine z_ofl (by decide +kernel) (Nat.le_of_ble_eq_true rfl) (fun p e s m args below meth c hX hY => ?_)
  unfold w_X0_claimByWeight at hf
  refine zt_L (L' := [(0, .ref (n0 + 53)), (1, .ref (n0 + 1)), (2, .int a2)]) rfl ?_
  refine zt_lconst hX dX0_claimByWeight_0 (v := (0 : Int64)) (by decide) ?_
  refine zt_lstore_n (L' := [(3, .long (0 : Int64)), (0, .ref (n0 + 53)), (1, .ref (n0 + 1)), (2, .int a2)]) hX dX0_claimByWeight_1 rfl (by decide) rfl ?_
  refine zt_iload_n hX 3 dX0_claimByWeight_2 rfl rfl ?_
  refine zt_iconst hX dX0_claimByWeight_3 (v := (1 : Int32)) (by decide) ?_
  refine zt_iadd hX dX0_claimByWeight_4 ?_
  refine zt_nmi (fun y1 e1 => ?_)
  replace hf := hf y1 e1
  refine zt_istore (L' := [(5, .int y1), (3, .long (0 : Int64)), (0, .ref (n0 + 53)), (1, .ref (n0 + 1)), (2, .int a2)]) hX dX0_claimByWeight_5 (by decide) rfl ?_
  exact zt_sub [2, 3, 4, 1, 0] rfl (t_X0_claimByWeight_7 hX hY 400 _ _ _ _ hf)

theorem dX0_giveOne_0 : decode cX0_giveOne 0 = .ok (.ldc 83, 2) := by decide +kernel
theorem dX0_giveOne_2 : decode cX0_giveOne 2 = .ok (.istore_n 3, 1) := by decide +kernel
theorem dX0_giveOne_3 : decode cX0_giveOne 3 = .ok (.iload_n 2, 1) := by decide +kernel
theorem dX0_giveOne_4 : decode cX0_giveOne 4 = .ok (.iconst 1, 1) := by decide +kernel
theorem dX0_giveOne_5 : decode cX0_giveOne 5 = .ok (.iadd, 1) := by decide +kernel
theorem dX0_giveOne_6 : decode cX0_giveOne 6 = .ok (.istore 4, 2) := by decide +kernel
theorem dX0_giveOne_8 : decode cX0_giveOne 8 = .ok (.iload 4, 2) := by decide +kernel
theorem dX0_giveOne_10 : decode cX0_giveOne 10 = .ok (.aload_n 1, 1) := by decide +kernel
theorem dX0_giveOne_11 : decode cX0_giveOne 11 = .ok (.getfield 26, 3) := by decide +kernel
theorem dX0_giveOne_14 : decode cX0_giveOne 14 = .ok (.if_icmp .ge 44, 3) := by decide +kernel
theorem dX0_giveOne_17 : decode cX0_giveOne 17 = .ok (.aload_n 1, 1) := by decide +kernel
theorem dX0_giveOne_18 : decode cX0_giveOne 18 = .ok (.getfield 63, 3) := by decide +kernel
theorem dX0_giveOne_21 : decode cX0_giveOne 21 = .ok (.iload 4, 2) := by decide +kernel
theorem dX0_giveOne_23 : decode cX0_giveOne 23 = .ok (.iaload, 1) := by decide +kernel
theorem dX0_giveOne_24 : decode cX0_giveOne 24 = .ok (.iload_n 2, 1) := by decide +kernel
theorem dX0_giveOne_25 : decode cX0_giveOne 25 = .ok (.if_icmp .ne 27, 3) := by decide +kernel
theorem dX0_giveOne_28 : decode cX0_giveOne 28 = .ok (.iload_n 3, 1) := by decide +kernel
theorem dX0_giveOne_29 : decode cX0_giveOne 29 = .ok (.ifCond .lt 20, 3) := by decide +kernel
theorem dX0_giveOne_32 : decode cX0_giveOne 32 = .ok (.aload_n 0, 1) := by decide +kernel
theorem dX0_giveOne_33 : decode cX0_giveOne 33 = .ok (.getfield 23, 3) := by decide +kernel
theorem dX0_giveOne_36 : decode cX0_giveOne 36 = .ok (.iload 4, 2) := by decide +kernel
theorem dX0_giveOne_38 : decode cX0_giveOne 38 = .ok (.laload, 1) := by decide +kernel
theorem dX0_giveOne_39 : decode cX0_giveOne 39 = .ok (.aload_n 0, 1) := by decide +kernel
theorem dX0_giveOne_40 : decode cX0_giveOne 40 = .ok (.getfield 23, 3) := by decide +kernel
theorem dX0_giveOne_43 : decode cX0_giveOne 43 = .ok (.iload_n 3, 1) := by decide +kernel
theorem dX0_giveOne_44 : decode cX0_giveOne 44 = .ok (.laload, 1) := by decide +kernel
theorem dX0_giveOne_45 : decode cX0_giveOne 45 = .ok (.lcmp, 1) := by decide +kernel
theorem dX0_giveOne_46 : decode cX0_giveOne 46 = .ok (.ifCond .le 6, 3) := by decide +kernel
theorem dX0_giveOne_49 : decode cX0_giveOne 49 = .ok (.iload 4, 2) := by decide +kernel
theorem dX0_giveOne_51 : decode cX0_giveOne 51 = .ok (.istore_n 3, 1) := by decide +kernel
theorem dX0_giveOne_52 : decode cX0_giveOne 52 = .ok (.iinc 4 1, 3) := by decide +kernel
theorem dX0_giveOne_55 : decode cX0_giveOne 55 = .ok (.goto (-47), 3) := by decide +kernel
theorem dX0_giveOne_58 : decode cX0_giveOne 58 = .ok (.iload_n 3, 1) := by decide +kernel
theorem dX0_giveOne_59 : decode cX0_giveOne 59 = .ok (.ifCond .lt 22, 3) := by decide +kernel
theorem dX0_giveOne_62 : decode cX0_giveOne 62 = .ok (.aload_n 0, 1) := by decide +kernel
theorem dX0_giveOne_63 : decode cX0_giveOne 63 = .ok (.getfield 20, 3) := by decide +kernel
theorem dX0_giveOne_66 : decode cX0_giveOne 66 = .ok (.iload_n 3, 1) := by decide +kernel
theorem dX0_giveOne_67 : decode cX0_giveOne 67 = .ok (.dup2, 1) := by decide +kernel
theorem dX0_giveOne_68 : decode cX0_giveOne 68 = .ok (.laload, 1) := by decide +kernel
theorem dX0_giveOne_69 : decode cX0_giveOne 69 = .ok (.lconst 1, 1) := by decide +kernel
theorem dX0_giveOne_70 : decode cX0_giveOne 70 = .ok (.ladd, 1) := by decide +kernel
theorem dX0_giveOne_71 : decode cX0_giveOne 71 = .ok (.lastore, 1) := by decide +kernel
theorem dX0_giveOne_72 : decode cX0_giveOne 72 = .ok (.aload_n 0, 1) := by decide +kernel
theorem dX0_giveOne_73 : decode cX0_giveOne 73 = .ok (.getfield 23, 3) := by decide +kernel
theorem dX0_giveOne_76 : decode cX0_giveOne 76 = .ok (.iload_n 3, 1) := by decide +kernel
theorem dX0_giveOne_77 : decode cX0_giveOne 77 = .ok (.ldc2_w 84, 3) := by decide +kernel
theorem dX0_giveOne_80 : decode cX0_giveOne 80 = .ok (.lastore, 1) := by decide +kernel
theorem dX0_giveOne_81 : decode cX0_giveOne 81 = .ok (.return_, 1) := by decide +kernel
abbrev rm_X0_giveOne : Room := { frames := 0, cells := 0, slots := 0, locals := 0 }
theorem hy_X0_giveOne : yX0_giveOne.cls ≠ "java/lang/invoke/MethodHandle" ∧ yX0_giveOne.cls ≠ "java/lang/invoke/VarHandle" ∧ (parseMethodDescriptor yX0_giveOne.desc).map (fun d => d.parameters.length) = some 2 := by decide +kernel
def w_X0_giveOne_52 (k8 : Int32 → Int32 → Int32 → z_S → Prop) (Q : z_S → Prop) (x2 : Int32) (x3 : Int32) (x4 : Int32) (σ : z_S) : Prop :=
  ∀ y11 : Int32, y11 = (x4 + (1 : Int32)) → k8 x2 x3 y11 σ
def w_X0_giveOne_49 (k8 : Int32 → Int32 → Int32 → z_S → Prop) (Q : z_S → Prop) (x2 : Int32) (x4 : Int32) (σ : z_S) : Prop :=
  w_X0_giveOne_52 k8 Q x2 x4 x4 σ
def wb_X0_giveOne_8  (Q : z_S → Prop) (k8 : Int32 → Int32 → Int32 → z_S → Prop) (x2 : Int32) (x3 : Int32) (x4 : Int32) (σ : z_S) : Prop :=
  if (zg_i σ 1 0) ≤ x4 then (if x3 < 0 then (Q σ) else (vp_in x3 10 ∧ vp_in x3 10 ∧ ∀ σ6 : z_S, σ6 = zs_l σ 66 x3.toNatClampNeg ((zg_l σ 66 x3.toNatClampNeg) + (1 : Int64)) → vp_in x3 10 ∧ ∀ σ8 : z_S, σ8 = zs_l σ6 67 x3.toNatClampNeg (-1 : Int64) → Q σ8)) else (vp_in x4 10 ∧ if (zg_i σ 2 x4.toNatClampNeg) = x2 then (if x3 < 0 then (w_X0_giveOne_49 k8 Q x2 x4 σ) else (vp_in x4 10 ∧ vp_in x3 10 ∧ if (lg_cmp (zg_l σ 67 x4.toNatClampNeg) (zg_l σ 67 x3.toNatClampNeg)) ≤ 0 then (w_X0_giveOne_52 k8 Q x2 x3 x4 σ) else (w_X0_giveOne_49 k8 Q x2 x4 σ))) else (w_X0_giveOne_52 k8 Q x2 x3 x4 σ))
def w_X0_giveOne_8  (Q : z_S → Prop) : Nat → Int32 → Int32 → Int32 → z_S → Prop
  | 0 => fun _ _ _ _ => False
  | n + 1 => wb_X0_giveOne_8  Q (w_X0_giveOne_8  Q n)
def w_X0_giveOne (a2 : Int32) (σ : z_S) (Q : z_S → Prop) : Prop :=
  ∀ y1 : Int32, y1 = (a2 + (1 : Int32)) → w_X0_giveOne_8 Q 400 a2 (-2000000000 : Int32) y1 σ
set_option maxHeartbeats 4000000 in
set_option maxRecDepth 100000 in
theorem t_X0_giveOne_52 {l : Launch} {D : va_G} {cI cJ cM cS : ClassId} {n0 : Nat} {p : Program} {e : Env} {s : State} {m : MethodId} {args : Array Value} {below : List Frame} {meth : Method} {c : Code} {k8 : Int32 → Int32 → Int32 → z_S → Prop} {Q : z_S → Prop} (hX : z_X D cI cJ cM cS p s m args c cX0_giveOne 5 yX0_giveOne.cls) (hY : z_Y s meth none) (hk8 : ∀ (x2 : Int32) (x3 : Int32) (x4 : Int32) (σ : z_S), k8 x2 x3 x4 σ → z_t D cI cJ cM cS n0 p l e rm_X0_giveOne s m args below meth c 5 (MQ below (va_Qv Q (fun u t => z_Bq D cI cJ cM cS n0 u t) (z_Ab n0)) args s 0 0 (z_Ab n0)) 0 0 8 [(0, .ref (n0 + 53)), (1, .ref (n0 + 1)), (2, .int x2), (3, .int x3), (4, .int x4)] [] σ) (x2 : Int32) (x3 : Int32) (x4 : Int32) (σ : z_S) (hf : w_X0_giveOne_52 k8 Q x2 x3 x4 σ) : z_t D cI cJ cM cS n0 p l e rm_X0_giveOne s m args below meth c 5 (MQ below (va_Qv Q (fun u t => z_Bq D cI cJ cM cS n0 u t) (z_Ab n0)) args s 0 0 (z_Ab n0)) 0 0 52 [(0, .ref (n0 + 53)), (1, .ref (n0 + 1)), (2, .int x2), (3, .int x3), (4, .int x4)] [] σ := by
  unfold w_X0_giveOne_52 at hf
  obtain ⟨y11, e11⟩ : ∃ y : Int32, y = (x4 + (1 : Int32)) := ⟨_, rfl⟩
  replace hf := hf y11 e11
  refine zt_iinc (L' := [(4, .int y11), (0, .ref (n0 + 53)), (1, .ref (n0 + 1)), (2, .int x2), (3, .int x3)]) hX 4 dX0_giveOne_52 rfl (v := y11) (by rw [e11]; rfl) (by decide) rfl ?_
  refine zt_goto hX dX0_giveOne_55 (tgt := 8) (by decide) ?_
  exact zt_sub [1, 2, 3, 4, 0] rfl (hk8 _ _ _ _ hf)
set_option maxHeartbeats 4000000 in
set_option maxRecDepth 100000 in
theorem t_X0_giveOne_49 {l : Launch} {D : va_G} {cI cJ cM cS : ClassId} {n0 : Nat} {p : Program} {e : Env} {s : State} {m : MethodId} {args : Array Value} {below : List Frame} {meth : Method} {c : Code} {k8 : Int32 → Int32 → Int32 → z_S → Prop} {Q : z_S → Prop} (hX : z_X D cI cJ cM cS p s m args c cX0_giveOne 5 yX0_giveOne.cls) (hY : z_Y s meth none) (hk8 : ∀ (x2 : Int32) (x3 : Int32) (x4 : Int32) (σ : z_S), k8 x2 x3 x4 σ → z_t D cI cJ cM cS n0 p l e rm_X0_giveOne s m args below meth c 5 (MQ below (va_Qv Q (fun u t => z_Bq D cI cJ cM cS n0 u t) (z_Ab n0)) args s 0 0 (z_Ab n0)) 0 0 8 [(0, .ref (n0 + 53)), (1, .ref (n0 + 1)), (2, .int x2), (3, .int x3), (4, .int x4)] [] σ) (x2 : Int32) (x4 : Int32) (σ : z_S) (hf : w_X0_giveOne_49 k8 Q x2 x4 σ) : z_t D cI cJ cM cS n0 p l e rm_X0_giveOne s m args below meth c 5 (MQ below (va_Qv Q (fun u t => z_Bq D cI cJ cM cS n0 u t) (z_Ab n0)) args s 0 0 (z_Ab n0)) 0 0 49 [(0, .ref (n0 + 53)), (1, .ref (n0 + 1)), (2, .int x2), (4, .int x4)] [] σ := by
  unfold w_X0_giveOne_49 at hf
  refine zt_iload hX 3 dX0_giveOne_49 rfl ?_
  refine zt_istore_n (L' := [(3, .int x4), (0, .ref (n0 + 53)), (1, .ref (n0 + 1)), (2, .int x2), (4, .int x4)]) hX dX0_giveOne_51 rfl (by decide) rfl ?_
  exact zt_sub [1, 2, 3, 0, 4] rfl (t_X0_giveOne_52 hX hY hk8 _ _ _ _ hf)
set_option maxHeartbeats 4000000 in
set_option maxRecDepth 100000 in
theorem t_X0_giveOne_8 {l : Launch} {D : va_G} {cI cJ cM cS : ClassId} {n0 : Nat} {p : Program} {e : Env} {s : State} {m : MethodId} {args : Array Value} {below : List Frame} {meth : Method} {c : Code}  {Q : z_S → Prop} (hX : z_X D cI cJ cM cS p s m args c cX0_giveOne 5 yX0_giveOne.cls) (hY : z_Y s meth none)  : ∀ (n : Nat) (x2 : Int32) (x3 : Int32) (x4 : Int32) (σ : z_S), w_X0_giveOne_8  Q n x2 x3 x4 σ → z_t D cI cJ cM cS n0 p l e rm_X0_giveOne s m args below meth c 5 (MQ below (va_Qv Q (fun u t => z_Bq D cI cJ cM cS n0 u t) (z_Ab n0)) args s 0 0 (z_Ab n0)) 0 0 8 [(0, .ref (n0 + 53)), (1, .ref (n0 + 1)), (2, .int x2), (3, .int x3), (4, .int x4)] [] σ := by
  intro n
  induction n with
  | zero => intro _ _ _ _ hf; exact hf.elim
  | succ n ih8 =>
    intro x2 x3 x4 σ hf
    have hf : wb_X0_giveOne_8  Q (w_X0_giveOne_8  Q n) x2 x3 x4 σ := hf
    unfold wb_X0_giveOne_8 at hf
    refine zt_iload hX 4 dX0_giveOne_8 rfl ?_
    refine zt_aload_n hX 1 dX0_giveOne_10 rfl rfl ?_
    refine zt_get_X4 hX (by decide) (zE_1 _ _) 0 (by decide) kw_89 rfl rfl dX0_giveOne_11 ?_
    refine zt_icmp_ge hX dX0_giveOne_14 (tgt := 58) (by decide) (fun c2 => ?_) (fun c2 => ?_)
    · replace hf := z_pos hf c2
      refine zt_iload_n hX 3 dX0_giveOne_58 rfl rfl ?_
      refine zt_if_lt hX dX0_giveOne_59 (tgt := 81) (by decide) (fun c3 => ?_) (fun c3 => ?_)
      · replace hf := z_pos hf c3
        exact zt_vret hX hY dX0_giveOne_81 hf
      · replace hf := z_neg hf c3
        refine zt_aload_n hX 0 dX0_giveOne_62 rfl rfl ?_
        refine zt_get_X0 hX (by decide) (zE_53 _ _) 2 (by decide) kw_189 rfl rfl dX0_giveOne_63 ?_
        refine zt_iload_n hX 3 dX0_giveOne_66 rfl rfl ?_
        refine zt_dup2 hX dX0_giveOne_67 rfl rfl ?_
        obtain ⟨h4, hf⟩ := hf
        refine zt_laload hX dX0_giveOne_68 (by decide) rfl h4 ?_
        refine zt_lconst hX dX0_giveOne_69 (v := (1 : Int64)) (by decide) ?_
        refine zt_ladd hX dX0_giveOne_70 ?_
        obtain ⟨h5, hf⟩ := hf
        refine zt_lastore hX dX0_giveOne_71 (by decide) rfl h5 ?_
        refine zt_nms (fun σ6 d6 => ?_)
        replace hf := hf σ6 d6
        refine zt_aload_n hX 0 dX0_giveOne_72 rfl rfl ?_
        refine zt_get_X0 hX (by decide) (zE_53 _ _) 3 (by decide) kw_190 rfl rfl dX0_giveOne_73 ?_
        refine zt_iload_n hX 3 dX0_giveOne_76 rfl rfl ?_
        refine zt_ldc2 hX dX0_giveOne_77 kw_465 ?_
        obtain ⟨h7, hf⟩ := hf
        refine zt_lastore hX dX0_giveOne_80 (by decide) rfl h7 ?_
        refine zt_nms (fun σ8 d8 => ?_)
        replace hf := hf σ8 d8
        exact zt_vret hX hY dX0_giveOne_81 hf
    · replace hf := z_neg hf c2
      refine zt_aload_n hX 1 dX0_giveOne_17 rfl rfl ?_
      refine zt_get_X4 hX (by decide) (zE_1 _ _) 4 (by decide) kw_101 rfl rfl dX0_giveOne_18 ?_
      refine zt_iload hX 4 dX0_giveOne_21 rfl ?_
      obtain ⟨h9, hf⟩ := hf
      refine zt_iaload hX dX0_giveOne_23 (by decide) rfl h9 ?_
      refine zt_iload_n hX 2 dX0_giveOne_24 rfl rfl ?_
      refine zt_icmp_ne hX dX0_giveOne_25 (tgt := 52) (by decide) (fun c10 => ?_) (fun c10 => ?_)
      · replace hf := z_neg hf c10
        exact zt_sub [0, 1, 2, 3, 4] rfl (t_X0_giveOne_52 hX hY ih8 _ _ _ _ hf)
      · replace hf := z_pos hf c10
        refine zt_iload_n hX 3 dX0_giveOne_28 rfl rfl ?_
        refine zt_if_lt hX dX0_giveOne_29 (tgt := 49) (by decide) (fun c12 => ?_) (fun c12 => ?_)
        · replace hf := z_pos hf c12
          exact zt_sub [0, 1, 2, 4] rfl (t_X0_giveOne_49 hX hY ih8 _ _ _ hf)
        · replace hf := z_neg hf c12
          refine zt_aload_n hX 0 dX0_giveOne_32 rfl rfl ?_
          refine zt_get_X0 hX (by decide) (zE_53 _ _) 3 (by decide) kw_190 rfl rfl dX0_giveOne_33 ?_
          refine zt_iload hX 4 dX0_giveOne_36 rfl ?_
          obtain ⟨h13, hf⟩ := hf
          refine zt_laload hX dX0_giveOne_38 (by decide) rfl h13 ?_
          refine zt_aload_n hX 0 dX0_giveOne_39 rfl rfl ?_
          refine zt_get_X0 hX (by decide) (zE_53 _ _) 3 (by decide) kw_190 rfl rfl dX0_giveOne_40 ?_
          refine zt_iload_n hX 3 dX0_giveOne_43 rfl rfl ?_
          obtain ⟨h14, hf⟩ := hf
          refine zt_laload hX dX0_giveOne_44 (by decide) rfl h14 ?_
          refine zt_lcmp hX dX0_giveOne_45 ?_
          refine zt_if_le hX dX0_giveOne_46 (tgt := 52) (by decide) (fun c15 => ?_) (fun c15 => ?_)
          · replace hf := z_pos hf c15
            exact zt_sub [0, 1, 2, 3, 4] rfl (t_X0_giveOne_52 hX hY ih8 _ _ _ _ hf)
          · replace hf := z_neg hf c15
            exact zt_sub [0, 1, 2, 4] rfl (t_X0_giveOne_49 hX hY ih8 _ _ _ hf)
set_option maxHeartbeats 4000000 in
set_option maxRecDepth 100000 in
theorem c_X0_giveOne {l : Launch} {D : va_G} {cI cJ cM cS : ClassId} {n0 : Nat} {a2 : Int32} {σ : z_S} {Q : z_S → Prop} (hf : w_X0_giveOne a2 σ Q) : z_cv l D cI cJ cM cS n0 yX0_giveOne cX0_giveOne 5 rm_X0_giveOne 0 0 [.ref (n0 + 53), .ref (n0 + 1), .int a2] σ Q := by
  refine z_ofv (by decide +kernel) (Nat.le_of_ble_eq_true rfl) (fun p e s m args below meth c hX hY => ?_)
  unfold w_X0_giveOne at hf
  refine zt_L (L' := [(0, .ref (n0 + 53)), (1, .ref (n0 + 1)), (2, .int a2)]) rfl ?_
  refine zt_ldc hX dX0_giveOne_0 kw_464 ?_
  refine zt_istore_n (L' := [(3, .int (-2000000000 : Int32)), (0, .ref (n0 + 53)), (1, .ref (n0 + 1)), (2, .int a2)]) hX dX0_giveOne_2 rfl (by decide) rfl ?_
  refine zt_iload_n hX 3 dX0_giveOne_3 rfl rfl ?_
  refine zt_iconst hX dX0_giveOne_4 (v := (1 : Int32)) (by decide) ?_
  refine zt_iadd hX dX0_giveOne_5 ?_
  refine zt_nmi (fun y1 e1 => ?_)
  replace hf := hf y1 e1
  refine zt_istore (L' := [(4, .int y1), (3, .int (-2000000000 : Int32)), (0, .ref (n0 + 53)), (1, .ref (n0 + 1)), (2, .int a2)]) hX dX0_giveOne_6 (by decide) rfl ?_
  exact zt_sub [2, 3, 4, 1, 0] rfl (t_X0_giveOne_8 hX hY 400 _ _ _ _ hf)

theorem dX0_divide_0 : decode cX0_divide 0 = .ok (.lload 5, 2) := by decide +kernel
theorem dX0_divide_2 : decode cX0_divide 2 = .ok (.lconst 0, 1) := by decide +kernel
theorem dX0_divide_3 : decode cX0_divide 3 = .ok (.lcmp, 1) := by decide +kernel
theorem dX0_divide_4 : decode cX0_divide 4 = .ok (.ifCond .gt 4, 3) := by decide +kernel
theorem dX0_divide_7 : decode cX0_divide 7 = .ok (.return_, 1) := by decide +kernel
theorem dX0_divide_8 : decode cX0_divide 8 = .ok (.lload_n 3, 1) := by decide +kernel
theorem dX0_divide_9 : decode cX0_divide 9 = .ok (.lstore 7, 2) := by decide +kernel
theorem dX0_divide_11 : decode cX0_divide 11 = .ok (.iload_n 2, 1) := by decide +kernel
theorem dX0_divide_12 : decode cX0_divide 12 = .ok (.iconst 1, 1) := by decide +kernel
theorem dX0_divide_13 : decode cX0_divide 13 = .ok (.iadd, 1) := by decide +kernel
theorem dX0_divide_14 : decode cX0_divide 14 = .ok (.istore 9, 2) := by decide +kernel
theorem dX0_divide_16 : decode cX0_divide 16 = .ok (.iload 9, 2) := by decide +kernel
theorem dX0_divide_18 : decode cX0_divide 18 = .ok (.aload_n 1, 1) := by decide +kernel
theorem dX0_divide_19 : decode cX0_divide 19 = .ok (.getfield 26, 3) := by decide +kernel
theorem dX0_divide_22 : decode cX0_divide 22 = .ok (.if_icmp .ge 70, 3) := by decide +kernel
theorem dX0_divide_25 : decode cX0_divide 25 = .ok (.aload_n 1, 1) := by decide +kernel
theorem dX0_divide_26 : decode cX0_divide 26 = .ok (.getfield 63, 3) := by decide +kernel
theorem dX0_divide_29 : decode cX0_divide 29 = .ok (.iload 9, 2) := by decide +kernel
theorem dX0_divide_31 : decode cX0_divide 31 = .ok (.iaload, 1) := by decide +kernel
theorem dX0_divide_32 : decode cX0_divide 32 = .ok (.iload_n 2, 1) := by decide +kernel
theorem dX0_divide_33 : decode cX0_divide 33 = .ok (.if_icmp .ne 53, 3) := by decide +kernel
theorem dX0_divide_36 : decode cX0_divide 36 = .ok (.aload_n 0, 1) := by decide +kernel
theorem dX0_divide_37 : decode cX0_divide 37 = .ok (.getfield 20, 3) := by decide +kernel
theorem dX0_divide_40 : decode cX0_divide 40 = .ok (.iload 9, 2) := by decide +kernel
theorem dX0_divide_42 : decode cX0_divide 42 = .ok (.lload_n 3, 1) := by decide +kernel
theorem dX0_divide_43 : decode cX0_divide 43 = .ok (.aload_n 0, 1) := by decide +kernel
theorem dX0_divide_44 : decode cX0_divide 44 = .ok (.getfield 16, 3) := by decide +kernel
theorem dX0_divide_47 : decode cX0_divide 47 = .ok (.iload 9, 2) := by decide +kernel
theorem dX0_divide_49 : decode cX0_divide 49 = .ok (.laload, 1) := by decide +kernel
theorem dX0_divide_50 : decode cX0_divide 50 = .ok (.lmul, 1) := by decide +kernel
theorem dX0_divide_51 : decode cX0_divide 51 = .ok (.lload 5, 2) := by decide +kernel
theorem dX0_divide_53 : decode cX0_divide 53 = .ok (.ldiv, 1) := by decide +kernel
theorem dX0_divide_54 : decode cX0_divide 54 = .ok (.lastore, 1) := by decide +kernel
theorem dX0_divide_55 : decode cX0_divide 55 = .ok (.aload_n 0, 1) := by decide +kernel
theorem dX0_divide_56 : decode cX0_divide 56 = .ok (.getfield 23, 3) := by decide +kernel
theorem dX0_divide_59 : decode cX0_divide 59 = .ok (.iload 9, 2) := by decide +kernel
theorem dX0_divide_61 : decode cX0_divide 61 = .ok (.lload_n 3, 1) := by decide +kernel
theorem dX0_divide_62 : decode cX0_divide 62 = .ok (.aload_n 0, 1) := by decide +kernel
theorem dX0_divide_63 : decode cX0_divide 63 = .ok (.getfield 16, 3) := by decide +kernel
theorem dX0_divide_66 : decode cX0_divide 66 = .ok (.iload 9, 2) := by decide +kernel
theorem dX0_divide_68 : decode cX0_divide 68 = .ok (.laload, 1) := by decide +kernel
theorem dX0_divide_69 : decode cX0_divide 69 = .ok (.lmul, 1) := by decide +kernel
theorem dX0_divide_70 : decode cX0_divide 70 = .ok (.lload 5, 2) := by decide +kernel
theorem dX0_divide_72 : decode cX0_divide 72 = .ok (.lrem, 1) := by decide +kernel
theorem dX0_divide_73 : decode cX0_divide 73 = .ok (.lastore, 1) := by decide +kernel
theorem dX0_divide_74 : decode cX0_divide 74 = .ok (.lload 7, 2) := by decide +kernel
theorem dX0_divide_76 : decode cX0_divide 76 = .ok (.aload_n 0, 1) := by decide +kernel
theorem dX0_divide_77 : decode cX0_divide 77 = .ok (.getfield 20, 3) := by decide +kernel
theorem dX0_divide_80 : decode cX0_divide 80 = .ok (.iload 9, 2) := by decide +kernel
theorem dX0_divide_82 : decode cX0_divide 82 = .ok (.laload, 1) := by decide +kernel
theorem dX0_divide_83 : decode cX0_divide 83 = .ok (.lsub, 1) := by decide +kernel
theorem dX0_divide_84 : decode cX0_divide 84 = .ok (.lstore 7, 2) := by decide +kernel
theorem dX0_divide_86 : decode cX0_divide 86 = .ok (.iinc 9 1, 3) := by decide +kernel
theorem dX0_divide_89 : decode cX0_divide 89 = .ok (.goto (-73), 3) := by decide +kernel
theorem dX0_divide_92 : decode cX0_divide 92 = .ok (.iconst 0, 1) := by decide +kernel
theorem dX0_divide_93 : decode cX0_divide 93 = .ok (.istore 9, 2) := by decide +kernel
theorem dX0_divide_95 : decode cX0_divide 95 = .ok (.iload 9, 2) := by decide +kernel
theorem dX0_divide_97 : decode cX0_divide 97 = .ok (.bipush 10, 2) := by decide +kernel
theorem dX0_divide_99 : decode cX0_divide 99 = .ok (.if_icmp .ge 24, 3) := by decide +kernel
theorem dX0_divide_102 : decode cX0_divide 102 = .ok (.iload 9, 2) := by decide +kernel
theorem dX0_divide_104 : decode cX0_divide 104 = .ok (.i2l, 1) := by decide +kernel
theorem dX0_divide_105 : decode cX0_divide 105 = .ok (.lload 7, 2) := by decide +kernel
theorem dX0_divide_107 : decode cX0_divide 107 = .ok (.lcmp, 1) := by decide +kernel
theorem dX0_divide_108 : decode cX0_divide 108 = .ok (.ifCond .ge 15, 3) := by decide +kernel
theorem dX0_divide_111 : decode cX0_divide 111 = .ok (.aload_n 0, 1) := by decide +kernel
theorem dX0_divide_112 : decode cX0_divide 112 = .ok (.aload_n 1, 1) := by decide +kernel
theorem dX0_divide_113 : decode cX0_divide 113 = .ok (.iload_n 2, 1) := by decide +kernel
theorem dX0_divide_114 : decode cX0_divide 114 = .ok (.invokevirtual 80, 3) := by decide +kernel
theorem dX0_divide_117 : decode cX0_divide 117 = .ok (.iinc 9 1, 3) := by decide +kernel
theorem dX0_divide_120 : decode cX0_divide 120 = .ok (.goto (-25), 3) := by decide +kernel
theorem dX0_divide_123 : decode cX0_divide 123 = .ok (.return_, 1) := by decide +kernel
abbrev rm_X0_divide : Room := { frames := 1, cells := 0, slots := 0, locals := 24 }
theorem hy_X0_divide : yX0_divide.cls ≠ "java/lang/invoke/MethodHandle" ∧ yX0_divide.cls ≠ "java/lang/invoke/VarHandle" ∧ (parseMethodDescriptor yX0_divide.desc).map (fun d => d.parameters.length) = some 4 := by decide +kernel
def wb_X0_divide_95  (Q : z_S → Prop) (k95 : Int32 → Int64 → Int32 → z_S → Prop) (x2 : Int32) (x7 : Int64) (x9 : Int32) (σ : z_S) : Prop :=
  if (10 : Int32) ≤ x9 then (Q σ) else (if 0 ≤ (lg_cmp x9.toInt64 x7) then (Q σ) else (w_X0_giveOne x2 σ (fun σ7 => ∀ y8 : Int32, y8 = (x9 + (1 : Int32)) → k95 x2 x7 y8 σ7)))
def w_X0_divide_95  (Q : z_S → Prop) : Nat → Int32 → Int64 → Int32 → z_S → Prop
  | 0 => fun _ _ _ _ => False
  | n + 1 => wb_X0_divide_95  Q (w_X0_divide_95  Q n)
def w_X0_divide_86 (k16 : Int32 → Int64 → Int64 → Int64 → Int32 → z_S → Prop) (Q : z_S → Prop) (x2 : Int32) (x3 : Int64) (x5 : Int64) (x7 : Int64) (x9 : Int32) (σ : z_S) : Prop :=
  ∀ y11 : Int32, y11 = (x9 + (1 : Int32)) → k16 x2 x3 x5 x7 y11 σ
def wb_X0_divide_16  (Q : z_S → Prop) (k16 : Int32 → Int64 → Int64 → Int64 → Int32 → z_S → Prop) (x2 : Int32) (x3 : Int64) (x5 : Int64) (x7 : Int64) (x9 : Int32) (σ : z_S) : Prop :=
  if (zg_i σ 1 0) ≤ x9 then (w_X0_divide_95 Q 400 x2 x7 (0 : Int32) σ) else (vp_in x9 10 ∧ if (zg_i σ 2 x9.toNatClampNeg) = x2 then (vp_in x9 10 ∧ ¬ x5 = 0 ∧ vp_in x9 10 ∧ ∀ σ15 : z_S, σ15 = zs_l σ 66 x9.toNatClampNeg ((x3 * (zg_l σ 65 x9.toNatClampNeg)) / x5) → vp_in x9 10 ∧ ¬ x5 = 0 ∧ vp_in x9 10 ∧ ∀ σ19 : z_S, σ19 = zs_l σ15 67 x9.toNatClampNeg ((x3 * (zg_l σ15 65 x9.toNatClampNeg)) - (x3 * (zg_l σ15 65 x9.toNatClampNeg)) / x5 * x5) → vp_in x9 10 ∧ ∀ y21 : Int64, y21 = (x7 - (zg_l σ19 66 x9.toNatClampNeg)) → w_X0_divide_86 k16 Q x2 x3 x5 y21 x9 σ19) else (w_X0_divide_86 k16 Q x2 x3 x5 x7 x9 σ))
def w_X0_divide_16  (Q : z_S → Prop) : Nat → Int32 → Int64 → Int64 → Int64 → Int32 → z_S → Prop
  | 0 => fun _ _ _ _ _ _ => False
  | n + 1 => wb_X0_divide_16  Q (w_X0_divide_16  Q n)
def w_X0_divide (a2 : Int32) (a3 : Int64) (a5 : Int64) (σ : z_S) (Q : z_S → Prop) : Prop :=
  if 0 < (lg_cmp a5 (0 : Int64)) then (∀ y2 : Int32, y2 = (a2 + (1 : Int32)) → w_X0_divide_16 Q 400 a2 a3 a5 a3 y2 σ) else (Q σ)
set_option maxHeartbeats 4000000 in
set_option maxRecDepth 100000 in
theorem t_X0_divide_95 {l : Launch} {D : va_G} {cI cJ cM cS : ClassId} {n0 : Nat} {p : Program} {e : Env} {s : State} {m : MethodId} {args : Array Value} {below : List Frame} {meth : Method} {c : Code}  {Q : z_S → Prop} (hX : z_X D cI cJ cM cS p s m args c cX0_divide 10 yX0_divide.cls) (hY : z_Y s meth none)  : ∀ (n : Nat) (x2 : Int32) (x7 : Int64) (x9 : Int32) (σ : z_S), w_X0_divide_95  Q n x2 x7 x9 σ → z_t D cI cJ cM cS n0 p l e rm_X0_divide s m args below meth c 10 (MQ below (va_Qv Q (fun u t => z_Bq D cI cJ cM cS n0 u t) (z_Ab n0)) args s 0 0 (z_Ab n0)) 0 0 95 [(0, .ref (n0 + 53)), (1, .ref (n0 + 1)), (2, .int x2), (7, .long x7), (9, .int x9)] [] σ := by
  intro n
  induction n with
  | zero => intro _ _ _ _ hf; exact hf.elim
  | succ n ih95 =>
    intro x2 x7 x9 σ hf
    have hf : wb_X0_divide_95  Q (w_X0_divide_95  Q n) x2 x7 x9 σ := hf
    unfold wb_X0_divide_95 at hf
    refine zt_iload hX 4 dX0_divide_95 rfl ?_
    refine zt_bipush hX dX0_divide_97 (v := (10 : Int32)) (by decide) ?_
    refine zt_icmp_ge hX dX0_divide_99 (tgt := 123) (by decide) (fun c4 => ?_) (fun c4 => ?_)
    · replace hf := z_pos hf c4
      exact zt_vret hX hY dX0_divide_123 hf
    · replace hf := z_neg hf c4
      refine zt_iload hX 4 dX0_divide_102 rfl ?_
      refine zt_i2l hX dX0_divide_104 ?_
      refine zt_lload hX 3 dX0_divide_105 rfl ?_
      refine zt_lcmp hX dX0_divide_107 ?_
      refine zt_if_ge hX dX0_divide_108 (tgt := 123) (by decide) (fun c5 => ?_) (fun c5 => ?_)
      · replace hf := z_pos hf c5
        exact zt_vret hX hY dX0_divide_123 hf
      · replace hf := z_neg hf c5
        refine zt_aload_n hX 0 dX0_divide_111 rfl rfl ?_
        refine zt_aload_n hX 1 dX0_divide_112 rfl rfl ?_
        refine zt_iload_n hX 2 dX0_divide_113 rfl rfl ?_
        refine zt_callvV hX hY (av := [.ref (n0 + 1), .int x2]) (c_X0_giveOne hf) dX0_divide_114 rfl kw_460 kw_462 kw_11 kw_65 kw_463 ⟨rfl, rfl⟩ hy_X0_giveOne ⟨by decide, by decide⟩ ⟨by decide, by decide⟩ (Nat.le_of_ble_eq_true rfl) (by decide) (zE_53 _ _) rfl rfl (fun σ7 hf => ?_)
        obtain ⟨y8, e8⟩ : ∃ y : Int32, y = (x9 + (1 : Int32)) := ⟨_, rfl⟩
        replace hf := hf y8 e8
        refine zt_iinc (L' := [(9, .int y8), (0, .ref (n0 + 53)), (1, .ref (n0 + 1)), (2, .int x2), (7, .long x7)]) hX 4 dX0_divide_117 rfl (v := y8) (by rw [e8]; rfl) (by decide) rfl ?_
        refine zt_goto hX dX0_divide_120 (tgt := 95) (by decide) ?_
        exact zt_sub [1, 2, 3, 4, 0] rfl (ih95 _ _ _ _ hf)
set_option maxHeartbeats 4000000 in
set_option maxRecDepth 100000 in
theorem t_X0_divide_86 {l : Launch} {D : va_G} {cI cJ cM cS : ClassId} {n0 : Nat} {p : Program} {e : Env} {s : State} {m : MethodId} {args : Array Value} {below : List Frame} {meth : Method} {c : Code} {k16 : Int32 → Int64 → Int64 → Int64 → Int32 → z_S → Prop} {Q : z_S → Prop} (hX : z_X D cI cJ cM cS p s m args c cX0_divide 10 yX0_divide.cls) (hY : z_Y s meth none) (hk16 : ∀ (x2 : Int32) (x3 : Int64) (x5 : Int64) (x7 : Int64) (x9 : Int32) (σ : z_S), k16 x2 x3 x5 x7 x9 σ → z_t D cI cJ cM cS n0 p l e rm_X0_divide s m args below meth c 10 (MQ below (va_Qv Q (fun u t => z_Bq D cI cJ cM cS n0 u t) (z_Ab n0)) args s 0 0 (z_Ab n0)) 0 0 16 [(0, .ref (n0 + 53)), (1, .ref (n0 + 1)), (2, .int x2), (3, .long x3), (5, .long x5), (7, .long x7), (9, .int x9)] [] σ) (x2 : Int32) (x3 : Int64) (x5 : Int64) (x7 : Int64) (x9 : Int32) (σ : z_S) (hf : w_X0_divide_86 k16 Q x2 x3 x5 x7 x9 σ) : z_t D cI cJ cM cS n0 p l e rm_X0_divide s m args below meth c 10 (MQ below (va_Qv Q (fun u t => z_Bq D cI cJ cM cS n0 u t) (z_Ab n0)) args s 0 0 (z_Ab n0)) 0 0 86 [(0, .ref (n0 + 53)), (1, .ref (n0 + 1)), (2, .int x2), (3, .long x3), (5, .long x5), (7, .long x7), (9, .int x9)] [] σ := by
  unfold w_X0_divide_86 at hf
  obtain ⟨y11, e11⟩ : ∃ y : Int32, y = (x9 + (1 : Int32)) := ⟨_, rfl⟩
  replace hf := hf y11 e11
  refine zt_iinc (L' := [(9, .int y11), (0, .ref (n0 + 53)), (1, .ref (n0 + 1)), (2, .int x2), (3, .long x3), (5, .long x5), (7, .long x7)]) hX 6 dX0_divide_86 rfl (v := y11) (by rw [e11]; rfl) (by decide) rfl ?_
  refine zt_goto hX dX0_divide_89 (tgt := 16) (by decide) ?_
  exact zt_sub [1, 2, 3, 4, 5, 6, 0] rfl (hk16 _ _ _ _ _ _ hf)
set_option maxHeartbeats 4000000 in
set_option maxRecDepth 100000 in
theorem t_X0_divide_16 {l : Launch} {D : va_G} {cI cJ cM cS : ClassId} {n0 : Nat} {p : Program} {e : Env} {s : State} {m : MethodId} {args : Array Value} {below : List Frame} {meth : Method} {c : Code}  {Q : z_S → Prop} (hX : z_X D cI cJ cM cS p s m args c cX0_divide 10 yX0_divide.cls) (hY : z_Y s meth none)  : ∀ (n : Nat) (x2 : Int32) (x3 : Int64) (x5 : Int64) (x7 : Int64) (x9 : Int32) (σ : z_S), w_X0_divide_16  Q n x2 x3 x5 x7 x9 σ → z_t D cI cJ cM cS n0 p l e rm_X0_divide s m args below meth c 10 (MQ below (va_Qv Q (fun u t => z_Bq D cI cJ cM cS n0 u t) (z_Ab n0)) args s 0 0 (z_Ab n0)) 0 0 16 [(0, .ref (n0 + 53)), (1, .ref (n0 + 1)), (2, .int x2), (3, .long x3), (5, .long x5), (7, .long x7), (9, .int x9)] [] σ := by
  intro n
  induction n with
  | zero => intro _ _ _ _ _ _ hf; exact hf.elim
  | succ n ih16 =>
    intro x2 x3 x5 x7 x9 σ hf
    have hf : wb_X0_divide_16  Q (w_X0_divide_16  Q n) x2 x3 x5 x7 x9 σ := hf
    unfold wb_X0_divide_16 at hf
    refine zt_iload hX 6 dX0_divide_16 rfl ?_
    refine zt_aload_n hX 1 dX0_divide_18 rfl rfl ?_
    refine zt_get_X4 hX (by decide) (zE_1 _ _) 0 (by decide) kw_89 rfl rfl dX0_divide_19 ?_
    refine zt_icmp_ge hX dX0_divide_22 (tgt := 92) (by decide) (fun c3 => ?_) (fun c3 => ?_)
    · replace hf := z_pos hf c3
      refine zt_iconst hX dX0_divide_92 (v := (0 : Int32)) (by decide) ?_
      refine zt_istore (L' := [(9, .int (0 : Int32)), (0, .ref (n0 + 53)), (1, .ref (n0 + 1)), (2, .int x2), (3, .long x3), (5, .long x5), (7, .long x7)]) hX dX0_divide_93 (by decide) rfl ?_
      exact zt_sub [1, 2, 3, 6, 0] rfl (t_X0_divide_95 hX hY 400 _ _ _ _ hf)
    · replace hf := z_neg hf c3
      refine zt_aload_n hX 1 dX0_divide_25 rfl rfl ?_
      refine zt_get_X4 hX (by decide) (zE_1 _ _) 4 (by decide) kw_101 rfl rfl dX0_divide_26 ?_
      refine zt_iload hX 6 dX0_divide_29 rfl ?_
      obtain ⟨h9, hf⟩ := hf
      refine zt_iaload hX dX0_divide_31 (by decide) rfl h9 ?_
      refine zt_iload_n hX 2 dX0_divide_32 rfl rfl ?_
      refine zt_icmp_ne hX dX0_divide_33 (tgt := 86) (by decide) (fun c10 => ?_) (fun c10 => ?_)
      · replace hf := z_neg hf c10
        exact zt_sub [0, 1, 2, 3, 4, 5, 6] rfl (t_X0_divide_86 hX hY ih16 _ _ _ _ _ _ hf)
      · replace hf := z_pos hf c10
        refine zt_aload_n hX 0 dX0_divide_36 rfl rfl ?_
        refine zt_get_X0 hX (by decide) (zE_53 _ _) 2 (by decide) kw_189 rfl rfl dX0_divide_37 ?_
        refine zt_iload hX 6 dX0_divide_40 rfl ?_
        refine zt_lload_n hX 3 dX0_divide_42 rfl rfl ?_
        refine zt_aload_n hX 0 dX0_divide_43 rfl rfl ?_
        refine zt_get_X0 hX (by decide) (zE_53 _ _) 1 (by decide) kw_188 rfl rfl dX0_divide_44 ?_
        refine zt_iload hX 6 dX0_divide_47 rfl ?_
        obtain ⟨h12, hf⟩ := hf
        refine zt_laload hX dX0_divide_49 (by decide) rfl h12 ?_
        refine zt_lmul hX dX0_divide_50 ?_
        refine zt_lload hX 4 dX0_divide_51 rfl ?_
        obtain ⟨h13, hf⟩ := hf
        refine zt_ldiv hX dX0_divide_53 h13 ?_
        obtain ⟨h14, hf⟩ := hf
        refine zt_lastore hX dX0_divide_54 (by decide) rfl h14 ?_
        refine zt_nms (fun σ15 d15 => ?_)
        replace hf := hf σ15 d15
        refine zt_aload_n hX 0 dX0_divide_55 rfl rfl ?_
        refine zt_get_X0 hX (by decide) (zE_53 _ _) 3 (by decide) kw_190 rfl rfl dX0_divide_56 ?_
        refine zt_iload hX 6 dX0_divide_59 rfl ?_
        refine zt_lload_n hX 3 dX0_divide_61 rfl rfl ?_
        refine zt_aload_n hX 0 dX0_divide_62 rfl rfl ?_
        refine zt_get_X0 hX (by decide) (zE_53 _ _) 1 (by decide) kw_188 rfl rfl dX0_divide_63 ?_
        refine zt_iload hX 6 dX0_divide_66 rfl ?_
        obtain ⟨h16, hf⟩ := hf
        refine zt_laload hX dX0_divide_68 (by decide) rfl h16 ?_
        refine zt_lmul hX dX0_divide_69 ?_
        refine zt_lload hX 4 dX0_divide_70 rfl ?_
        obtain ⟨h17, hf⟩ := hf
        refine zt_lrem hX dX0_divide_72 h17 ?_
        obtain ⟨h18, hf⟩ := hf
        refine zt_lastore hX dX0_divide_73 (by decide) rfl h18 ?_
        refine zt_nms (fun σ19 d19 => ?_)
        replace hf := hf σ19 d19
        refine zt_lload hX 5 dX0_divide_74 rfl ?_
        refine zt_aload_n hX 0 dX0_divide_76 rfl rfl ?_
        refine zt_get_X0 hX (by decide) (zE_53 _ _) 2 (by decide) kw_189 rfl rfl dX0_divide_77 ?_
        refine zt_iload hX 6 dX0_divide_80 rfl ?_
        obtain ⟨h20, hf⟩ := hf
        refine zt_laload hX dX0_divide_82 (by decide) rfl h20 ?_
        refine zt_lsub hX dX0_divide_83 ?_
        refine zt_nml (fun y21 e21 => ?_)
        replace hf := hf y21 e21
        refine zt_lstore (L' := [(7, .long y21), (0, .ref (n0 + 53)), (1, .ref (n0 + 1)), (2, .int x2), (3, .long x3), (5, .long x5), (9, .int x9)]) hX dX0_divide_84 (by decide) rfl ?_
        exact zt_sub [1, 2, 3, 4, 5, 0, 6] rfl (t_X0_divide_86 hX hY ih16 _ _ _ _ _ _ hf)
set_option maxHeartbeats 4000000 in
set_option maxRecDepth 100000 in
theorem c_X0_divide {l : Launch} {D : va_G} {cI cJ cM cS : ClassId} {n0 : Nat} {a2 : Int32} {a3 : Int64} {a5 : Int64} {σ : z_S} {Q : z_S → Prop} (hf : w_X0_divide a2 a3 a5 σ Q) : z_cv l D cI cJ cM cS n0 yX0_divide cX0_divide 10 rm_X0_divide 0 0 [.ref (n0 + 53), .ref (n0 + 1), .int a2, .long a3, .long a5] σ Q := by
  refine z_ofv (by decide +kernel) (Nat.le_of_ble_eq_true rfl) (fun p e s m args below meth c hX hY => ?_)
  unfold w_X0_divide at hf
  refine zt_L (L' := [(0, .ref (n0 + 53)), (1, .ref (n0 + 1)), (2, .int a2), (3, .long a3), (5, .long a5)]) rfl ?_
  refine zt_lload hX 4 dX0_divide_0 rfl ?_
  refine zt_lconst hX dX0_divide_2 (v := (0 : Int64)) (by decide) ?_
  refine zt_lcmp hX dX0_divide_3 ?_
  refine zt_if_gt hX dX0_divide_4 (tgt := 8) (by decide) (fun c1 => ?_) (fun c1 => ?_)
  · replace hf := z_pos hf c1
    refine zt_lload_n hX 3 dX0_divide_8 rfl rfl ?_
    refine zt_lstore (L' := [(7, .long a3), (0, .ref (n0 + 53)), (1, .ref (n0 + 1)), (2, .int a2), (3, .long a3), (5, .long a5)]) hX dX0_divide_9 (by decide) rfl ?_
    refine zt_iload_n hX 3 dX0_divide_11 rfl rfl ?_
    refine zt_iconst hX dX0_divide_12 (v := (1 : Int32)) (by decide) ?_
    refine zt_iadd hX dX0_divide_13 ?_
    refine zt_nmi (fun y2 e2 => ?_)
    replace hf := hf y2 e2
    refine zt_istore (L' := [(9, .int y2), (7, .long a3), (0, .ref (n0 + 53)), (1, .ref (n0 + 1)), (2, .int a2), (3, .long a3), (5, .long a5)]) hX dX0_divide_14 (by decide) rfl ?_
    exact zt_sub [2, 3, 4, 5, 6, 1, 0] rfl (t_X0_divide_16 hX hY 400 _ _ _ _ _ _ hf)
  · replace hf := z_neg hf c1
    exact zt_vret hX hY dX0_divide_7 hf

theorem dX0_allocate_0 : decode cX0_allocate 0 = .ok (.aload_n 0, 1) := by decide +kernel
theorem dX0_allocate_1 : decode cX0_allocate 1 = .ok (.aload_n 1, 1) := by decide +kernel
theorem dX0_allocate_2 : decode cX0_allocate 2 = .ok (.aload_n 2, 1) := by decide +kernel
theorem dX0_allocate_3 : decode cX0_allocate 3 = .ok (.iload_n 3, 1) := by decide +kernel
theorem dX0_allocate_4 : decode cX0_allocate 4 = .ok (.iload 4, 2) := by decide +kernel
theorem dX0_allocate_6 : decode cX0_allocate 6 = .ok (.invokevirtual 55, 3) := by decide +kernel
theorem dX0_allocate_9 : decode cX0_allocate 9 = .ok (.lstore 5, 2) := by decide +kernel
theorem dX0_allocate_11 : decode cX0_allocate 11 = .ok (.lload 5, 2) := by decide +kernel
theorem dX0_allocate_13 : decode cX0_allocate 13 = .ok (.lconst 0, 1) := by decide +kernel
theorem dX0_allocate_14 : decode cX0_allocate 14 = .ok (.lcmp, 1) := by decide +kernel
theorem dX0_allocate_15 : decode cX0_allocate 15 = .ok (.ifCond .ne 11, 3) := by decide +kernel
theorem dX0_allocate_18 : decode cX0_allocate 18 = .ok (.aload_n 0, 1) := by decide +kernel
theorem dX0_allocate_19 : decode cX0_allocate 19 = .ok (.aload_n 1, 1) := by decide +kernel
theorem dX0_allocate_20 : decode cX0_allocate 20 = .ok (.iload_n 3, 1) := by decide +kernel
theorem dX0_allocate_21 : decode cX0_allocate 21 = .ok (.invokevirtual 59, 3) := by decide +kernel
theorem dX0_allocate_24 : decode cX0_allocate 24 = .ok (.lstore 5, 2) := by decide +kernel
theorem dX0_allocate_26 : decode cX0_allocate 26 = .ok (.lload 5, 2) := by decide +kernel
theorem dX0_allocate_28 : decode cX0_allocate 28 = .ok (.lconst 0, 1) := by decide +kernel
theorem dX0_allocate_29 : decode cX0_allocate 29 = .ok (.lcmp, 1) := by decide +kernel
theorem dX0_allocate_30 : decode cX0_allocate 30 = .ok (.ifCond .gt 4, 3) := by decide +kernel
theorem dX0_allocate_33 : decode cX0_allocate 33 = .ok (.return_, 1) := by decide +kernel
theorem dX0_allocate_34 : decode cX0_allocate 34 = .ok (.aload_n 0, 1) := by decide +kernel
theorem dX0_allocate_35 : decode cX0_allocate 35 = .ok (.getfield 11, 3) := by decide +kernel
theorem dX0_allocate_38 : decode cX0_allocate 38 = .ok (.iload_n 3, 1) := by decide +kernel
theorem dX0_allocate_39 : decode cX0_allocate 39 = .ok (.aaload, 1) := by decide +kernel
theorem dX0_allocate_40 : decode cX0_allocate 40 = .ok (.iload 4, 2) := by decide +kernel
theorem dX0_allocate_42 : decode cX0_allocate 42 = .ok (.iaload, 1) := by decide +kernel
theorem dX0_allocate_43 : decode cX0_allocate 43 = .ok (.i2l, 1) := by decide +kernel
theorem dX0_allocate_44 : decode cX0_allocate 44 = .ok (.lstore 7, 2) := by decide +kernel
theorem dX0_allocate_46 : decode cX0_allocate 46 = .ok (.iload_n 3, 1) := by decide +kernel
theorem dX0_allocate_47 : decode cX0_allocate 47 = .ok (.iconst 1, 1) := by decide +kernel
theorem dX0_allocate_48 : decode cX0_allocate 48 = .ok (.iadd, 1) := by decide +kernel
theorem dX0_allocate_49 : decode cX0_allocate 49 = .ok (.istore 9, 2) := by decide +kernel
theorem dX0_allocate_51 : decode cX0_allocate 51 = .ok (.iload 9, 2) := by decide +kernel
theorem dX0_allocate_53 : decode cX0_allocate 53 = .ok (.aload_n 1, 1) := by decide +kernel
theorem dX0_allocate_54 : decode cX0_allocate 54 = .ok (.getfield 26, 3) := by decide +kernel
theorem dX0_allocate_57 : decode cX0_allocate 57 = .ok (.if_icmp .ge 36, 3) := by decide +kernel
theorem dX0_allocate_60 : decode cX0_allocate 60 = .ok (.aload_n 1, 1) := by decide +kernel
theorem dX0_allocate_61 : decode cX0_allocate 61 = .ok (.getfield 63, 3) := by decide +kernel
theorem dX0_allocate_64 : decode cX0_allocate 64 = .ok (.iload 9, 2) := by decide +kernel
theorem dX0_allocate_66 : decode cX0_allocate 66 = .ok (.iaload, 1) := by decide +kernel
theorem dX0_allocate_67 : decode cX0_allocate 67 = .ok (.iload_n 3, 1) := by decide +kernel
theorem dX0_allocate_68 : decode cX0_allocate 68 = .ok (.if_icmp .ne 19, 3) := by decide +kernel
theorem dX0_allocate_71 : decode cX0_allocate 71 = .ok (.lload 7, 2) := by decide +kernel
theorem dX0_allocate_73 : decode cX0_allocate 73 = .ok (.aload_n 2, 1) := by decide +kernel
theorem dX0_allocate_74 : decode cX0_allocate 74 = .ok (.getfield 38, 3) := by decide +kernel
theorem dX0_allocate_77 : decode cX0_allocate 77 = .ok (.iload 9, 2) := by decide +kernel
theorem dX0_allocate_79 : decode cX0_allocate 79 = .ok (.aaload, 1) := by decide +kernel
theorem dX0_allocate_80 : decode cX0_allocate 80 = .ok (.iload 4, 2) := by decide +kernel
theorem dX0_allocate_82 : decode cX0_allocate 82 = .ok (.iaload, 1) := by decide +kernel
theorem dX0_allocate_83 : decode cX0_allocate 83 = .ok (.i2l, 1) := by decide +kernel
theorem dX0_allocate_84 : decode cX0_allocate 84 = .ok (.lsub, 1) := by decide +kernel
theorem dX0_allocate_85 : decode cX0_allocate 85 = .ok (.lstore 7, 2) := by decide +kernel
theorem dX0_allocate_87 : decode cX0_allocate 87 = .ok (.iinc 9 1, 3) := by decide +kernel
theorem dX0_allocate_90 : decode cX0_allocate 90 = .ok (.goto (-39), 3) := by decide +kernel
theorem dX0_allocate_93 : decode cX0_allocate 93 = .ok (.aload_n 0, 1) := by decide +kernel
theorem dX0_allocate_94 : decode cX0_allocate 94 = .ok (.aload_n 1, 1) := by decide +kernel
theorem dX0_allocate_95 : decode cX0_allocate 95 = .ok (.iload_n 3, 1) := by decide +kernel
theorem dX0_allocate_96 : decode cX0_allocate 96 = .ok (.lload 7, 2) := by decide +kernel
theorem dX0_allocate_98 : decode cX0_allocate 98 = .ok (.invokestatic 67, 3) := by decide +kernel
theorem dX0_allocate_101 : decode cX0_allocate 101 = .ok (.lload 5, 2) := by decide +kernel
theorem dX0_allocate_103 : decode cX0_allocate 103 = .ok (.invokevirtual 73, 3) := by decide +kernel
theorem dX0_allocate_106 : decode cX0_allocate 106 = .ok (.iload_n 3, 1) := by decide +kernel
theorem dX0_allocate_107 : decode cX0_allocate 107 = .ok (.iconst 1, 1) := by decide +kernel
theorem dX0_allocate_108 : decode cX0_allocate 108 = .ok (.iadd, 1) := by decide +kernel
theorem dX0_allocate_109 : decode cX0_allocate 109 = .ok (.istore 9, 2) := by decide +kernel
theorem dX0_allocate_111 : decode cX0_allocate 111 = .ok (.iload 9, 2) := by decide +kernel
theorem dX0_allocate_113 : decode cX0_allocate 113 = .ok (.aload_n 1, 1) := by decide +kernel
theorem dX0_allocate_114 : decode cX0_allocate 114 = .ok (.getfield 26, 3) := by decide +kernel
theorem dX0_allocate_117 : decode cX0_allocate 117 = .ok (.if_icmp .ge 75, 3) := by decide +kernel
theorem dX0_allocate_120 : decode cX0_allocate 120 = .ok (.aload_n 1, 1) := by decide +kernel
theorem dX0_allocate_121 : decode cX0_allocate 121 = .ok (.getfield 63, 3) := by decide +kernel
theorem dX0_allocate_124 : decode cX0_allocate 124 = .ok (.iload 9, 2) := by decide +kernel
theorem dX0_allocate_126 : decode cX0_allocate 126 = .ok (.iaload, 1) := by decide +kernel
theorem dX0_allocate_127 : decode cX0_allocate 127 = .ok (.iload_n 3, 1) := by decide +kernel
theorem dX0_allocate_128 : decode cX0_allocate 128 = .ok (.if_icmp .ne 58, 3) := by decide +kernel
theorem dX0_allocate_131 : decode cX0_allocate 131 = .ok (.aload_n 2, 1) := by decide +kernel
theorem dX0_allocate_132 : decode cX0_allocate 132 = .ok (.getfield 38, 3) := by decide +kernel
theorem dX0_allocate_135 : decode cX0_allocate 135 = .ok (.iload 9, 2) := by decide +kernel
theorem dX0_allocate_137 : decode cX0_allocate 137 = .ok (.aaload, 1) := by decide +kernel
theorem dX0_allocate_138 : decode cX0_allocate 138 = .ok (.iload 4, 2) := by decide +kernel
theorem dX0_allocate_140 : decode cX0_allocate 140 = .ok (.iaload, 1) := by decide +kernel
theorem dX0_allocate_141 : decode cX0_allocate 141 = .ok (.istore 10, 2) := by decide +kernel
theorem dX0_allocate_143 : decode cX0_allocate 143 = .ok (.aload_n 0, 1) := by decide +kernel
theorem dX0_allocate_144 : decode cX0_allocate 144 = .ok (.getfield 11, 3) := by decide +kernel
theorem dX0_allocate_147 : decode cX0_allocate 147 = .ok (.iload 9, 2) := by decide +kernel
theorem dX0_allocate_149 : decode cX0_allocate 149 = .ok (.aaload, 1) := by decide +kernel
theorem dX0_allocate_150 : decode cX0_allocate 150 = .ok (.iload 4, 2) := by decide +kernel
theorem dX0_allocate_152 : decode cX0_allocate 152 = .ok (.lload 7, 2) := by decide +kernel
theorem dX0_allocate_154 : decode cX0_allocate 154 = .ok (.lconst 0, 1) := by decide +kernel
theorem dX0_allocate_155 : decode cX0_allocate 155 = .ok (.lcmp, 1) := by decide +kernel
theorem dX0_allocate_156 : decode cX0_allocate 156 = .ok (.ifCond .ge 17, 3) := by decide +kernel
theorem dX0_allocate_159 : decode cX0_allocate 159 = .ok (.iload 10, 2) := by decide +kernel
theorem dX0_allocate_161 : decode cX0_allocate 161 = .ok (.i2l, 1) := by decide +kernel
theorem dX0_allocate_162 : decode cX0_allocate 162 = .ok (.aload_n 0, 1) := by decide +kernel
theorem dX0_allocate_163 : decode cX0_allocate 163 = .ok (.getfield 20, 3) := by decide +kernel
theorem dX0_allocate_166 : decode cX0_allocate 166 = .ok (.iload 9, 2) := by decide +kernel
theorem dX0_allocate_168 : decode cX0_allocate 168 = .ok (.laload, 1) := by decide +kernel
theorem dX0_allocate_169 : decode cX0_allocate 169 = .ok (.lsub, 1) := by decide +kernel
theorem dX0_allocate_170 : decode cX0_allocate 170 = .ok (.goto 14, 3) := by decide +kernel
theorem dX0_allocate_173 : decode cX0_allocate 173 = .ok (.iload 10, 2) := by decide +kernel
theorem dX0_allocate_175 : decode cX0_allocate 175 = .ok (.i2l, 1) := by decide +kernel
theorem dX0_allocate_176 : decode cX0_allocate 176 = .ok (.aload_n 0, 1) := by decide +kernel
theorem dX0_allocate_177 : decode cX0_allocate 177 = .ok (.getfield 20, 3) := by decide +kernel
theorem dX0_allocate_180 : decode cX0_allocate 180 = .ok (.iload 9, 2) := by decide +kernel
theorem dX0_allocate_182 : decode cX0_allocate 182 = .ok (.laload, 1) := by decide +kernel
theorem dX0_allocate_183 : decode cX0_allocate 183 = .ok (.ladd, 1) := by decide +kernel
theorem dX0_allocate_184 : decode cX0_allocate 184 = .ok (.l2i, 1) := by decide +kernel
theorem dX0_allocate_185 : decode cX0_allocate 185 = .ok (.iastore, 1) := by decide +kernel
theorem dX0_allocate_186 : decode cX0_allocate 186 = .ok (.iinc 9 1, 3) := by decide +kernel
theorem dX0_allocate_189 : decode cX0_allocate 189 = .ok (.goto (-78), 3) := by decide +kernel
theorem dX0_allocate_192 : decode cX0_allocate 192 = .ok (.return_, 1) := by decide +kernel
abbrev rm_X0_allocate : Room := { frames := 2, cells := 0, slots := 0, locals := 53 }
theorem hy_X0_allocate : yX0_allocate.cls ≠ "java/lang/invoke/MethodHandle" ∧ yX0_allocate.cls ≠ "java/lang/invoke/VarHandle" ∧ (parseMethodDescriptor yX0_allocate.desc).map (fun d => d.parameters.length) = some 4 := by decide +kernel
def w_X0_allocate_186 (k111 : Int32 → Int32 → Int64 → Int32 → z_S → Prop) (Q : z_S → Prop) (x3 : Int32) (x4 : Int32) (x7 : Int64) (x9 : Int32) (σ : z_S) : Prop :=
  ∀ y16 : Int32, y16 = (x9 + (1 : Int32)) → k111 x3 x4 x7 y16 σ
def w_X0_allocate_184 (k111 : Int32 → Int32 → Int64 → Int32 → z_S → Prop) (Q : z_S → Prop) (x3 : Int32) (x4 : Int32) (x7 : Int64) (x9 : Int32) (s0 : Int64) (s1 : Int32) (q2 : Nat) (σ : z_S) : Prop :=
  (q2 < 81 ∧ z_sh q2 = (10, 12)) ∧ vp_in s1 12 ∧ ∀ σ25 : z_S, σ25 = zs_i σ q2 s1.toNatClampNeg s0.toInt32 → w_X0_allocate_186 k111 Q x3 x4 x7 x9 σ25
def wb_X0_allocate_111  (Q : z_S → Prop) (k111 : Int32 → Int32 → Int64 → Int32 → z_S → Prop) (x3 : Int32) (x4 : Int32) (x7 : Int64) (x9 : Int32) (σ : z_S) : Prop :=
  if (zg_i σ 1 0) ≤ x9 then (Q σ) else (vp_in x9 10 ∧ if (zg_i σ 2 x9.toNatClampNeg) = x3 then (vp_in x9 10 ∧ vp_in x4 12 ∧ ∀ y19 : Int32, y19 = (zg_i σ (31 + x9.toNatClampNeg) x4.toNatClampNeg) → vp_in x9 10 ∧ if 0 ≤ (lg_cmp x7 (0 : Int64)) then (vp_in x9 10 ∧ w_X0_allocate_184 k111 Q x3 x4 x7 x9 (y19.toInt64 + (zg_l σ 66 x9.toNatClampNeg)) x4 (55 + x9.toNatClampNeg) σ) else (vp_in x9 10 ∧ w_X0_allocate_184 k111 Q x3 x4 x7 x9 (y19.toInt64 - (zg_l σ 66 x9.toNatClampNeg)) x4 (55 + x9.toNatClampNeg) σ)) else (w_X0_allocate_186 k111 Q x3 x4 x7 x9 σ))
def w_X0_allocate_111  (Q : z_S → Prop) : Nat → Int32 → Int32 → Int64 → Int32 → z_S → Prop
  | 0 => fun _ _ _ _ _ => False
  | n + 1 => wb_X0_allocate_111  Q (w_X0_allocate_111  Q n)
def w_X0_allocate_87 (k51 : Int32 → Int32 → Int64 → Int64 → Int32 → z_S → Prop) (Q : z_S → Prop) (x3 : Int32) (x4 : Int32) (x5 : Int64) (x7 : Int64) (x9 : Int32) (σ : z_S) : Prop :=
  ∀ y29 : Int32, y29 = (x9 + (1 : Int32)) → k51 x3 x4 x5 x7 y29 σ
def wb_X0_allocate_51  (Q : z_S → Prop) (k51 : Int32 → Int32 → Int64 → Int64 → Int32 → z_S → Prop) (x3 : Int32) (x4 : Int32) (x5 : Int64) (x7 : Int64) (x9 : Int32) (σ : z_S) : Prop :=
  if (zg_i σ 1 0) ≤ x9 then (w_X0_divide x3 (if 0 < x7 then x7 else -x7) x5 σ (fun σ11 => ∀ y12 : Int32, y12 = (x3 + (1 : Int32)) → w_X0_allocate_111 Q 400 x3 x4 x7 y12 σ11)) else (vp_in x9 10 ∧ if (zg_i σ 2 x9.toNatClampNeg) = x3 then (vp_in x9 10 ∧ vp_in x4 12 ∧ ∀ y32 : Int64, y32 = (x7 - ((zg_i σ (31 + x9.toNatClampNeg) x4.toNatClampNeg).toInt64)) → w_X0_allocate_87 k51 Q x3 x4 x5 y32 x9 σ) else (w_X0_allocate_87 k51 Q x3 x4 x5 x7 x9 σ))
def w_X0_allocate_51  (Q : z_S → Prop) : Nat → Int32 → Int32 → Int64 → Int64 → Int32 → z_S → Prop
  | 0 => fun _ _ _ _ _ _ => False
  | n + 1 => wb_X0_allocate_51  Q (w_X0_allocate_51  Q n)
def w_X0_allocate_26  (Q : z_S → Prop) (x3 : Int32) (x4 : Int32) (x5 : Int64) (σ : z_S) : Prop :=
  if 0 < (lg_cmp x5 (0 : Int64)) then (vp_in x3 10 ∧ vp_in x4 12 ∧ ∀ y7 : Int64, y7 = (zg_i σ (55 + x3.toNatClampNeg) x4.toNatClampNeg).toInt64 → ∀ y8 : Int32, y8 = (x3 + (1 : Int32)) → w_X0_allocate_51 Q 400 x3 x4 x5 y7 y8 σ) else (Q σ)
def w_X0_allocate (a3 : Int32) (a4 : Int32) (σ : z_S) (Q : z_S → Prop) : Prop :=
  w_X0_claimByEnergy a3 a4 σ (fun r1 σ2 => if (lg_cmp r1 (0 : Int64)) = 0 then (w_X0_claimByWeight a3 σ2 (fun r33 σ34 => w_X0_allocate_26 Q a3 a4 r33 σ34)) else (w_X0_allocate_26 Q a3 a4 r1 σ2))
set_option maxHeartbeats 4000000 in
set_option maxRecDepth 100000 in
theorem t_X0_allocate_186 {l : Launch} {D : va_G} {cI cJ cM cS : ClassId} {n0 : Nat} {p : Program} {e : Env} {s : State} {m : MethodId} {args : Array Value} {below : List Frame} {meth : Method} {c : Code} {k111 : Int32 → Int32 → Int64 → Int32 → z_S → Prop} {Q : z_S → Prop} (hX : z_X D cI cJ cM cS p s m args c cX0_allocate 11 yX0_allocate.cls) (hY : z_Y s meth none) (hk111 : ∀ (x3 : Int32) (x4 : Int32) (x7 : Int64) (x9 : Int32) (σ : z_S), k111 x3 x4 x7 x9 σ → z_t D cI cJ cM cS n0 p l e rm_X0_allocate s m args below meth c 11 (MQ below (va_Qv Q (fun u t => z_Bq D cI cJ cM cS n0 u t) (z_Ab n0)) args s 0 0 (z_Ab n0)) 0 0 111 [(0, .ref (n0 + 53)), (1, .ref (n0 + 1)), (2, .ref (n0 + 29)), (3, .int x3), (4, .int x4), (7, .long x7), (9, .int x9)] [] σ) (x3 : Int32) (x4 : Int32) (x7 : Int64) (x9 : Int32) (σ : z_S) (hf : w_X0_allocate_186 k111 Q x3 x4 x7 x9 σ) : z_t D cI cJ cM cS n0 p l e rm_X0_allocate s m args below meth c 11 (MQ below (va_Qv Q (fun u t => z_Bq D cI cJ cM cS n0 u t) (z_Ab n0)) args s 0 0 (z_Ab n0)) 0 0 186 [(0, .ref (n0 + 53)), (1, .ref (n0 + 1)), (2, .ref (n0 + 29)), (3, .int x3), (4, .int x4), (7, .long x7), (9, .int x9)] [] σ := by
  unfold w_X0_allocate_186 at hf
  obtain ⟨y16, e16⟩ : ∃ y : Int32, y = (x9 + (1 : Int32)) := ⟨_, rfl⟩
  replace hf := hf y16 e16
  refine zt_iinc (L' := [(9, .int y16), (0, .ref (n0 + 53)), (1, .ref (n0 + 1)), (2, .ref (n0 + 29)), (3, .int x3), (4, .int x4), (7, .long x7)]) hX 6 dX0_allocate_186 rfl (v := y16) (by rw [e16]; rfl) (by decide) rfl ?_
  refine zt_goto hX dX0_allocate_189 (tgt := 111) (by decide) ?_
  exact zt_sub [1, 2, 3, 4, 5, 6, 0] rfl (hk111 _ _ _ _ _ hf)
set_option maxHeartbeats 4000000 in
set_option maxRecDepth 100000 in
theorem t_X0_allocate_184 {l : Launch} {D : va_G} {cI cJ cM cS : ClassId} {n0 : Nat} {p : Program} {e : Env} {s : State} {m : MethodId} {args : Array Value} {below : List Frame} {meth : Method} {c : Code} {k111 : Int32 → Int32 → Int64 → Int32 → z_S → Prop} {Q : z_S → Prop} (hX : z_X D cI cJ cM cS p s m args c cX0_allocate 11 yX0_allocate.cls) (hY : z_Y s meth none) (hk111 : ∀ (x3 : Int32) (x4 : Int32) (x7 : Int64) (x9 : Int32) (σ : z_S), k111 x3 x4 x7 x9 σ → z_t D cI cJ cM cS n0 p l e rm_X0_allocate s m args below meth c 11 (MQ below (va_Qv Q (fun u t => z_Bq D cI cJ cM cS n0 u t) (z_Ab n0)) args s 0 0 (z_Ab n0)) 0 0 111 [(0, .ref (n0 + 53)), (1, .ref (n0 + 1)), (2, .ref (n0 + 29)), (3, .int x3), (4, .int x4), (7, .long x7), (9, .int x9)] [] σ) (x3 : Int32) (x4 : Int32) (x7 : Int64) (x9 : Int32) (s0 : Int64) (s1 : Int32) (q2 : Nat) (σ : z_S) (hf : w_X0_allocate_184 k111 Q x3 x4 x7 x9 s0 s1 q2 σ) : z_t D cI cJ cM cS n0 p l e rm_X0_allocate s m args below meth c 11 (MQ below (va_Qv Q (fun u t => z_Bq D cI cJ cM cS n0 u t) (z_Ab n0)) args s 0 0 (z_Ab n0)) 0 0 184 [(0, .ref (n0 + 53)), (1, .ref (n0 + 1)), (2, .ref (n0 + 29)), (3, .int x3), (4, .int x4), (7, .long x7), (9, .int x9)] [.long s0, .int s1, .ref (n0 + q2)] σ := by
  unfold w_X0_allocate_184 at hf
  refine zt_l2i hX dX0_allocate_184 ?_
  obtain ⟨h24, hf⟩ := hf
  obtain ⟨h23, hf⟩ := hf
  refine zt_iastore hX dX0_allocate_185 h24.1 h24.2 h23 ?_
  refine zt_nms (fun σ25 d25 => ?_)
  replace hf := hf σ25 d25
  exact zt_sub [0, 1, 2, 3, 4, 5, 6] rfl (t_X0_allocate_186 hX hY hk111 _ _ _ _ _ hf)
set_option maxHeartbeats 4000000 in
set_option maxRecDepth 100000 in
theorem t_X0_allocate_111 {l : Launch} {D : va_G} {cI cJ cM cS : ClassId} {n0 : Nat} {p : Program} {e : Env} {s : State} {m : MethodId} {args : Array Value} {below : List Frame} {meth : Method} {c : Code}  {Q : z_S → Prop} (hX : z_X D cI cJ cM cS p s m args c cX0_allocate 11 yX0_allocate.cls) (hY : z_Y s meth none)  : ∀ (n : Nat) (x3 : Int32) (x4 : Int32) (x7 : Int64) (x9 : Int32) (σ : z_S), w_X0_allocate_111  Q n x3 x4 x7 x9 σ → z_t D cI cJ cM cS n0 p l e rm_X0_allocate s m args below meth c 11 (MQ below (va_Qv Q (fun u t => z_Bq D cI cJ cM cS n0 u t) (z_Ab n0)) args s 0 0 (z_Ab n0)) 0 0 111 [(0, .ref (n0 + 53)), (1, .ref (n0 + 1)), (2, .ref (n0 + 29)), (3, .int x3), (4, .int x4), (7, .long x7), (9, .int x9)] [] σ := by
  intro n
  induction n with
  | zero => intro _ _ _ _ _ hf; exact hf.elim
  | succ n ih111 =>
    intro x3 x4 x7 x9 σ hf
    have hf : wb_X0_allocate_111  Q (w_X0_allocate_111  Q n) x3 x4 x7 x9 σ := hf
    unfold wb_X0_allocate_111 at hf
    refine zt_iload hX 6 dX0_allocate_111 rfl ?_
    refine zt_aload_n hX 1 dX0_allocate_113 rfl rfl ?_
    refine zt_get_X4 hX (by decide) (zE_1 _ _) 0 (by decide) kw_89 rfl rfl dX0_allocate_114 ?_
    refine zt_icmp_ge hX dX0_allocate_117 (tgt := 192) (by decide) (fun c13 => ?_) (fun c13 => ?_)
    · replace hf := z_pos hf c13
      exact zt_vret hX hY dX0_allocate_192 hf
    · replace hf := z_neg hf c13
      refine zt_aload_n hX 1 dX0_allocate_120 rfl rfl ?_
      refine zt_get_X4 hX (by decide) (zE_1 _ _) 4 (by decide) kw_101 rfl rfl dX0_allocate_121 ?_
      refine zt_iload hX 6 dX0_allocate_124 rfl ?_
      obtain ⟨h14, hf⟩ := hf
      refine zt_iaload hX dX0_allocate_126 (by decide) rfl h14 ?_
      refine zt_iload_n hX 3 dX0_allocate_127 rfl rfl ?_
      refine zt_icmp_ne hX dX0_allocate_128 (tgt := 186) (by decide) (fun c15 => ?_) (fun c15 => ?_)
      · replace hf := z_neg hf c15
        exact zt_sub [0, 1, 2, 3, 4, 5, 6] rfl (t_X0_allocate_186 hX hY ih111 _ _ _ _ _ hf)
      · replace hf := z_pos hf c15
        refine zt_aload_n hX 2 dX0_allocate_131 rfl rfl ?_
        refine zt_get_X1 hX (by decide) (zE_29 _ _) 0 (by decide) kw_167 rfl rfl dX0_allocate_132 ?_
        refine zt_iload hX 6 dX0_allocate_135 rfl ?_
        obtain ⟨h17, hf⟩ := hf
        refine zt_aaloadM hX dX0_allocate_137 (by decide) rfl (k1 := 31) rfl h17 ?_
        refine zt_iload hX 4 dX0_allocate_138 rfl ?_
        obtain ⟨h18, hf⟩ := hf
        refine zt_iaload hX dX0_allocate_140 (z_row31 (z_lt h17)) (z_sh31 (z_lt h17)) h18 ?_
        refine zt_nmi (fun y19 e19 => ?_)
        replace hf := hf y19 e19
        refine zt_istore (L' := [(10, .int y19), (0, .ref (n0 + 53)), (1, .ref (n0 + 1)), (2, .ref (n0 + 29)), (3, .int x3), (4, .int x4), (7, .long x7), (9, .int x9)]) hX dX0_allocate_141 (by decide) rfl ?_
        refine zt_aload_n hX 1 dX0_allocate_143 rfl rfl ?_
        refine zt_get_X0 hX (by decide) (zE_53 _ _) 0 (by decide) kw_186 rfl rfl dX0_allocate_144 ?_
        refine zt_iload hX 7 dX0_allocate_147 rfl ?_
        obtain ⟨h20, hf⟩ := hf
        refine zt_aaloadM hX dX0_allocate_149 (by decide) rfl (k1 := 55) rfl h20 ?_
        refine zt_iload hX 5 dX0_allocate_150 rfl ?_
        refine zt_lload hX 6 dX0_allocate_152 rfl ?_
        refine zt_lconst hX dX0_allocate_154 (v := (0 : Int64)) (by decide) ?_
        refine zt_lcmp hX dX0_allocate_155 ?_
        refine zt_if_ge hX dX0_allocate_156 (tgt := 173) (by decide) (fun c21 => ?_) (fun c21 => ?_)
        · replace hf := z_pos hf c21
          refine zt_iload hX 0 dX0_allocate_173 rfl ?_
          refine zt_i2l hX dX0_allocate_175 ?_
          refine zt_aload_n hX 1 dX0_allocate_176 rfl rfl ?_
          refine zt_get_X0 hX (by decide) (zE_53 _ _) 2 (by decide) kw_189 rfl rfl dX0_allocate_177 ?_
          refine zt_iload hX 7 dX0_allocate_180 rfl ?_
          obtain ⟨h22, hf⟩ := hf
          refine zt_laload hX dX0_allocate_182 (by decide) rfl h22 ?_
          refine zt_ladd hX dX0_allocate_183 ?_
          exact zt_sub [1, 2, 3, 4, 5, 6, 7] rfl (t_X0_allocate_184 hX hY ih111 _ _ _ _ _ _ _ _ hf)
        · replace hf := z_neg hf c21
          refine zt_iload hX 0 dX0_allocate_159 rfl ?_
          refine zt_i2l hX dX0_allocate_161 ?_
          refine zt_aload_n hX 1 dX0_allocate_162 rfl rfl ?_
          refine zt_get_X0 hX (by decide) (zE_53 _ _) 2 (by decide) kw_189 rfl rfl dX0_allocate_163 ?_
          refine zt_iload hX 7 dX0_allocate_166 rfl ?_
          obtain ⟨h26, hf⟩ := hf
          refine zt_laload hX dX0_allocate_168 (by decide) rfl h26 ?_
          refine zt_lsub hX dX0_allocate_169 ?_
          refine zt_goto hX dX0_allocate_170 (tgt := 184) (by decide) ?_
          exact zt_sub [1, 2, 3, 4, 5, 6, 7] rfl (t_X0_allocate_184 hX hY ih111 _ _ _ _ _ _ _ _ hf)
set_option maxHeartbeats 4000000 in
set_option maxRecDepth 100000 in
theorem t_X0_allocate_87 {l : Launch} {D : va_G} {cI cJ cM cS : ClassId} {n0 : Nat} {p : Program} {e : Env} {s : State} {m : MethodId} {args : Array Value} {below : List Frame} {meth : Method} {c : Code} {k51 : Int32 → Int32 → Int64 → Int64 → Int32 → z_S → Prop} {Q : z_S → Prop} (hX : z_X D cI cJ cM cS p s m args c cX0_allocate 11 yX0_allocate.cls) (hY : z_Y s meth none) (hk51 : ∀ (x3 : Int32) (x4 : Int32) (x5 : Int64) (x7 : Int64) (x9 : Int32) (σ : z_S), k51 x3 x4 x5 x7 x9 σ → z_t D cI cJ cM cS n0 p l e rm_X0_allocate s m args below meth c 11 (MQ below (va_Qv Q (fun u t => z_Bq D cI cJ cM cS n0 u t) (z_Ab n0)) args s 0 0 (z_Ab n0)) 0 0 51 [(0, .ref (n0 + 53)), (1, .ref (n0 + 1)), (2, .ref (n0 + 29)), (3, .int x3), (4, .int x4), (5, .long x5), (7, .long x7), (9, .int x9)] [] σ) (x3 : Int32) (x4 : Int32) (x5 : Int64) (x7 : Int64) (x9 : Int32) (σ : z_S) (hf : w_X0_allocate_87 k51 Q x3 x4 x5 x7 x9 σ) : z_t D cI cJ cM cS n0 p l e rm_X0_allocate s m args below meth c 11 (MQ below (va_Qv Q (fun u t => z_Bq D cI cJ cM cS n0 u t) (z_Ab n0)) args s 0 0 (z_Ab n0)) 0 0 87 [(0, .ref (n0 + 53)), (1, .ref (n0 + 1)), (2, .ref (n0 + 29)), (3, .int x3), (4, .int x4), (5, .long x5), (7, .long x7), (9, .int x9)] [] σ := by
  unfold w_X0_allocate_87 at hf
  obtain ⟨y29, e29⟩ : ∃ y : Int32, y = (x9 + (1 : Int32)) := ⟨_, rfl⟩
  replace hf := hf y29 e29
  refine zt_iinc (L' := [(9, .int y29), (0, .ref (n0 + 53)), (1, .ref (n0 + 1)), (2, .ref (n0 + 29)), (3, .int x3), (4, .int x4), (5, .long x5), (7, .long x7)]) hX 7 dX0_allocate_87 rfl (v := y29) (by rw [e29]; rfl) (by decide) rfl ?_
  refine zt_goto hX dX0_allocate_90 (tgt := 51) (by decide) ?_
  exact zt_sub [1, 2, 3, 4, 5, 6, 7, 0] rfl (hk51 _ _ _ _ _ _ hf)
set_option maxHeartbeats 4000000 in
set_option maxRecDepth 100000 in
theorem t_X0_allocate_51 {l : Launch} {D : va_G} {cI cJ cM cS : ClassId} {n0 : Nat} {p : Program} {e : Env} {s : State} {m : MethodId} {args : Array Value} {below : List Frame} {meth : Method} {c : Code}  {Q : z_S → Prop} (hX : z_X D cI cJ cM cS p s m args c cX0_allocate 11 yX0_allocate.cls) (hY : z_Y s meth none)  : ∀ (n : Nat) (x3 : Int32) (x4 : Int32) (x5 : Int64) (x7 : Int64) (x9 : Int32) (σ : z_S), w_X0_allocate_51  Q n x3 x4 x5 x7 x9 σ → z_t D cI cJ cM cS n0 p l e rm_X0_allocate s m args below meth c 11 (MQ below (va_Qv Q (fun u t => z_Bq D cI cJ cM cS n0 u t) (z_Ab n0)) args s 0 0 (z_Ab n0)) 0 0 51 [(0, .ref (n0 + 53)), (1, .ref (n0 + 1)), (2, .ref (n0 + 29)), (3, .int x3), (4, .int x4), (5, .long x5), (7, .long x7), (9, .int x9)] [] σ := by
  intro n
  induction n with
  | zero => intro _ _ _ _ _ _ hf; exact hf.elim
  | succ n ih51 =>
    intro x3 x4 x5 x7 x9 σ hf
    have hf : wb_X0_allocate_51  Q (w_X0_allocate_51  Q n) x3 x4 x5 x7 x9 σ := hf
    unfold wb_X0_allocate_51 at hf
    refine zt_iload hX 7 dX0_allocate_51 rfl ?_
    refine zt_aload_n hX 1 dX0_allocate_53 rfl rfl ?_
    refine zt_get_X4 hX (by decide) (zE_1 _ _) 0 (by decide) kw_89 rfl rfl dX0_allocate_54 ?_
    refine zt_icmp_ge hX dX0_allocate_57 (tgt := 93) (by decide) (fun c9 => ?_) (fun c9 => ?_)
    · replace hf := z_pos hf c9
      refine zt_aload_n hX 0 dX0_allocate_93 rfl rfl ?_
      refine zt_aload_n hX 1 dX0_allocate_94 rfl rfl ?_
      refine zt_iload_n hX 3 dX0_allocate_95 rfl rfl ?_
      refine zt_lload hX 6 dX0_allocate_96 rfl ?_
      refine zt_absl hX dX0_allocate_98 kw_453 (by decide) (Nat.le_of_ble_eq_true rfl) (by decide) (by decide) ?_
      refine zt_lload hX 5 dX0_allocate_101 rfl ?_
      refine zt_callvV hX hY (av := [.ref (n0 + 1), .int x3, .long (if 0 < x7 then x7 else -x7), .long x5]) (c_X0_divide hf) dX0_allocate_103 rfl kw_456 kw_458 kw_10 kw_65 kw_459 ⟨rfl, rfl⟩ hy_X0_divide ⟨by decide, by decide⟩ ⟨by decide, by decide⟩ (Nat.le_of_ble_eq_true rfl) (by decide) (zE_53 _ _) rfl rfl (fun σ11 hf => ?_)
      refine zt_iload_n hX 3 dX0_allocate_106 rfl rfl ?_
      refine zt_iconst hX dX0_allocate_107 (v := (1 : Int32)) (by decide) ?_
      refine zt_iadd hX dX0_allocate_108 ?_
      refine zt_nmi (fun y12 e12 => ?_)
      replace hf := hf y12 e12
      refine zt_istore (L' := [(9, .int y12), (0, .ref (n0 + 53)), (1, .ref (n0 + 1)), (2, .ref (n0 + 29)), (3, .int x3), (4, .int x4), (5, .long x5), (7, .long x7)]) hX dX0_allocate_109 (by decide) rfl ?_
      exact zt_sub [1, 2, 3, 4, 5, 7, 0] rfl (t_X0_allocate_111 hX hY 400 _ _ _ _ _ hf)
    · replace hf := z_neg hf c9
      refine zt_aload_n hX 1 dX0_allocate_60 rfl rfl ?_
      refine zt_get_X4 hX (by decide) (zE_1 _ _) 4 (by decide) kw_101 rfl rfl dX0_allocate_61 ?_
      refine zt_iload hX 7 dX0_allocate_64 rfl ?_
      obtain ⟨h27, hf⟩ := hf
      refine zt_iaload hX dX0_allocate_66 (by decide) rfl h27 ?_
      refine zt_iload_n hX 3 dX0_allocate_67 rfl rfl ?_
      refine zt_icmp_ne hX dX0_allocate_68 (tgt := 87) (by decide) (fun c28 => ?_) (fun c28 => ?_)
      · replace hf := z_neg hf c28
        exact zt_sub [0, 1, 2, 3, 4, 5, 6, 7] rfl (t_X0_allocate_87 hX hY ih51 _ _ _ _ _ _ hf)
      · replace hf := z_pos hf c28
        refine zt_lload hX 6 dX0_allocate_71 rfl ?_
        refine zt_aload_n hX 2 dX0_allocate_73 rfl rfl ?_
        refine zt_get_X1 hX (by decide) (zE_29 _ _) 0 (by decide) kw_167 rfl rfl dX0_allocate_74 ?_
        refine zt_iload hX 7 dX0_allocate_77 rfl ?_
        obtain ⟨h30, hf⟩ := hf
        refine zt_aaloadM hX dX0_allocate_79 (by decide) rfl (k1 := 31) rfl h30 ?_
        refine zt_iload hX 4 dX0_allocate_80 rfl ?_
        obtain ⟨h31, hf⟩ := hf
        refine zt_iaload hX dX0_allocate_82 (z_row31 (z_lt h30)) (z_sh31 (z_lt h30)) h31 ?_
        refine zt_i2l hX dX0_allocate_83 ?_
        refine zt_lsub hX dX0_allocate_84 ?_
        refine zt_nml (fun y32 e32 => ?_)
        replace hf := hf y32 e32
        refine zt_lstore (L' := [(7, .long y32), (0, .ref (n0 + 53)), (1, .ref (n0 + 1)), (2, .ref (n0 + 29)), (3, .int x3), (4, .int x4), (5, .long x5), (9, .int x9)]) hX dX0_allocate_85 (by decide) rfl ?_
        exact zt_sub [1, 2, 3, 4, 5, 6, 0, 7] rfl (t_X0_allocate_87 hX hY ih51 _ _ _ _ _ _ hf)
set_option maxHeartbeats 4000000 in
set_option maxRecDepth 100000 in
theorem t_X0_allocate_26 {l : Launch} {D : va_G} {cI cJ cM cS : ClassId} {n0 : Nat} {p : Program} {e : Env} {s : State} {m : MethodId} {args : Array Value} {below : List Frame} {meth : Method} {c : Code}  {Q : z_S → Prop} (hX : z_X D cI cJ cM cS p s m args c cX0_allocate 11 yX0_allocate.cls) (hY : z_Y s meth none)  (x3 : Int32) (x4 : Int32) (x5 : Int64) (σ : z_S) (hf : w_X0_allocate_26  Q x3 x4 x5 σ) : z_t D cI cJ cM cS n0 p l e rm_X0_allocate s m args below meth c 11 (MQ below (va_Qv Q (fun u t => z_Bq D cI cJ cM cS n0 u t) (z_Ab n0)) args s 0 0 (z_Ab n0)) 0 0 26 [(0, .ref (n0 + 53)), (1, .ref (n0 + 1)), (2, .ref (n0 + 29)), (3, .int x3), (4, .int x4), (5, .long x5)] [] σ := by
  unfold w_X0_allocate_26 at hf
  refine zt_lload hX 5 dX0_allocate_26 rfl ?_
  refine zt_lconst hX dX0_allocate_28 (v := (0 : Int64)) (by decide) ?_
  refine zt_lcmp hX dX0_allocate_29 ?_
  refine zt_if_gt hX dX0_allocate_30 (tgt := 34) (by decide) (fun c4 => ?_) (fun c4 => ?_)
  · replace hf := z_pos hf c4
    refine zt_aload_n hX 0 dX0_allocate_34 rfl rfl ?_
    refine zt_get_X0 hX (by decide) (zE_53 _ _) 0 (by decide) kw_186 rfl rfl dX0_allocate_35 ?_
    refine zt_iload_n hX 3 dX0_allocate_38 rfl rfl ?_
    obtain ⟨h5, hf⟩ := hf
    refine zt_aaloadM hX dX0_allocate_39 (by decide) rfl (k1 := 55) rfl h5 ?_
    refine zt_iload hX 4 dX0_allocate_40 rfl ?_
    obtain ⟨h6, hf⟩ := hf
    refine zt_iaload hX dX0_allocate_42 (z_row55 (z_lt h5)) (z_sh55 (z_lt h5)) h6 ?_
    refine zt_i2l hX dX0_allocate_43 ?_
    refine zt_nml (fun y7 e7 => ?_)
    replace hf := hf y7 e7
    refine zt_lstore (L' := [(7, .long y7), (0, .ref (n0 + 53)), (1, .ref (n0 + 1)), (2, .ref (n0 + 29)), (3, .int x3), (4, .int x4), (5, .long x5)]) hX dX0_allocate_44 (by decide) rfl ?_
    refine zt_iload_n hX 4 dX0_allocate_46 rfl rfl ?_
    refine zt_iconst hX dX0_allocate_47 (v := (1 : Int32)) (by decide) ?_
    refine zt_iadd hX dX0_allocate_48 ?_
    refine zt_nmi (fun y8 e8 => ?_)
    replace hf := hf y8 e8
    refine zt_istore (L' := [(9, .int y8), (7, .long y7), (0, .ref (n0 + 53)), (1, .ref (n0 + 1)), (2, .ref (n0 + 29)), (3, .int x3), (4, .int x4), (5, .long x5)]) hX dX0_allocate_49 (by decide) rfl ?_
    exact zt_sub [2, 3, 4, 5, 6, 7, 1, 0] rfl (t_X0_allocate_51 hX hY 400 _ _ _ _ _ _ hf)
  · replace hf := z_neg hf c4
    exact zt_vret hX hY dX0_allocate_33 hf
set_option maxHeartbeats 4000000 in
set_option maxRecDepth 100000 in
theorem c_X0_allocate {l : Launch} {D : va_G} {cI cJ cM cS : ClassId} {n0 : Nat} {a3 : Int32} {a4 : Int32} {σ : z_S} {Q : z_S → Prop} (hf : w_X0_allocate a3 a4 σ Q) : z_cv l D cI cJ cM cS n0 yX0_allocate cX0_allocate 11 rm_X0_allocate 0 0 [.ref (n0 + 53), .ref (n0 + 1), .ref (n0 + 29), .int a3, .int a4] σ Q := by
  refine z_ofv (by decide +kernel) (Nat.le_of_ble_eq_true rfl) (fun p e s m args below meth c hX hY => ?_)
  unfold w_X0_allocate at hf
  refine zt_L (L' := [(0, .ref (n0 + 53)), (1, .ref (n0 + 1)), (2, .ref (n0 + 29)), (3, .int a3), (4, .int a4)]) rfl ?_
  refine zt_aload_n hX 0 dX0_allocate_0 rfl rfl ?_
  refine zt_aload_n hX 1 dX0_allocate_1 rfl rfl ?_
  refine zt_aload_n hX 2 dX0_allocate_2 rfl rfl ?_
  refine zt_iload_n hX 3 dX0_allocate_3 rfl rfl ?_
  refine zt_iload hX 4 dX0_allocate_4 rfl ?_
  refine zt_calllV hX hY (av := [.ref (n0 + 1), .ref (n0 + 29), .int a3, .int a4]) (c_X0_claimByEnergy hf) dX0_allocate_6 rfl kw_445 kw_447 kw_8 kw_65 kw_448 ⟨rfl, rfl⟩ hy_X0_claimByEnergy ⟨by decide, by decide⟩ ⟨by decide, by decide⟩ (Nat.le_of_ble_eq_true rfl) (by decide) (zE_53 _ _) rfl rfl (fun r1 σ2 hf => ?_)
  refine zt_lstore (L' := [(5, .long r1), (0, .ref (n0 + 53)), (1, .ref (n0 + 1)), (2, .ref (n0 + 29)), (3, .int a3), (4, .int a4)]) hX dX0_allocate_9 (by decide) rfl ?_
  refine zt_lload hX 0 dX0_allocate_11 rfl ?_
  refine zt_lconst hX dX0_allocate_13 (v := (0 : Int64)) (by decide) ?_
  refine zt_lcmp hX dX0_allocate_14 ?_
  refine zt_if_ne hX dX0_allocate_15 (tgt := 26) (by decide) (fun c3 => ?_) (fun c3 => ?_)
  · replace hf := z_neg hf c3
    exact zt_sub [1, 2, 3, 4, 5, 0] rfl (t_X0_allocate_26 hX hY _ _ _ _ hf)
  · replace hf := z_pos hf c3
    refine zt_aload_n hX 1 dX0_allocate_18 rfl rfl ?_
    refine zt_aload_n hX 2 dX0_allocate_19 rfl rfl ?_
    refine zt_iload_n hX 4 dX0_allocate_20 rfl rfl ?_
    refine zt_calllV hX hY (av := [.ref (n0 + 1), .int a3]) (c_X0_claimByWeight hf) dX0_allocate_21 rfl kw_449 kw_451 kw_9 kw_65 kw_452 ⟨rfl, rfl⟩ hy_X0_claimByWeight ⟨by decide, by decide⟩ ⟨by decide, by decide⟩ (Nat.le_of_ble_eq_true rfl) (by decide) (zE_53 _ _) rfl rfl (fun r33 σ34 hf => ?_)
    refine zt_lstore (L' := [(5, .long r33), (0, .ref (n0 + 53)), (1, .ref (n0 + 1)), (2, .ref (n0 + 29)), (3, .int a3), (4, .int a4)]) hX dX0_allocate_24 (by decide) rfl ?_
    exact zt_sub [1, 2, 3, 4, 5, 0] rfl (t_X0_allocate_26 hX hY _ _ _ _ hf)

theorem dX1_interpolate_0 : decode cX1_interpolate 0 = .ok (.aload_n 0, 1) := by decide +kernel
theorem dX1_interpolate_1 : decode cX1_interpolate 1 = .ok (.getfield 11, 3) := by decide +kernel
theorem dX1_interpolate_4 : decode cX1_interpolate 4 = .ok (.iload_n 1, 1) := by decide +kernel
theorem dX1_interpolate_5 : decode cX1_interpolate 5 = .ok (.aaload, 1) := by decide +kernel
theorem dX1_interpolate_6 : decode cX1_interpolate 6 = .ok (.iload_n 2, 1) := by decide +kernel
theorem dX1_interpolate_7 : decode cX1_interpolate 7 = .ok (.iconst 1, 1) := by decide +kernel
theorem dX1_interpolate_8 : decode cX1_interpolate 8 = .ok (.isub, 1) := by decide +kernel
theorem dX1_interpolate_9 : decode cX1_interpolate 9 = .ok (.iaload, 1) := by decide +kernel
theorem dX1_interpolate_10 : decode cX1_interpolate 10 = .ok (.istore 4, 2) := by decide +kernel
theorem dX1_interpolate_12 : decode cX1_interpolate 12 = .ok (.aload_n 0, 1) := by decide +kernel
theorem dX1_interpolate_13 : decode cX1_interpolate 13 = .ok (.getfield 11, 3) := by decide +kernel
theorem dX1_interpolate_16 : decode cX1_interpolate 16 = .ok (.iload_n 1, 1) := by decide +kernel
theorem dX1_interpolate_17 : decode cX1_interpolate 17 = .ok (.aaload, 1) := by decide +kernel
theorem dX1_interpolate_18 : decode cX1_interpolate 18 = .ok (.iload_n 3, 1) := by decide +kernel
theorem dX1_interpolate_19 : decode cX1_interpolate 19 = .ok (.iconst 1, 1) := by decide +kernel
theorem dX1_interpolate_20 : decode cX1_interpolate 20 = .ok (.iadd, 1) := by decide +kernel
theorem dX1_interpolate_21 : decode cX1_interpolate 21 = .ok (.iaload, 1) := by decide +kernel
theorem dX1_interpolate_22 : decode cX1_interpolate 22 = .ok (.istore 5, 2) := by decide +kernel
theorem dX1_interpolate_24 : decode cX1_interpolate 24 = .ok (.iload_n 3, 1) := by decide +kernel
theorem dX1_interpolate_25 : decode cX1_interpolate 25 = .ok (.iload_n 2, 1) := by decide +kernel
theorem dX1_interpolate_26 : decode cX1_interpolate 26 = .ok (.isub, 1) := by decide +kernel
theorem dX1_interpolate_27 : decode cX1_interpolate 27 = .ok (.iconst 2, 1) := by decide +kernel
theorem dX1_interpolate_28 : decode cX1_interpolate 28 = .ok (.iadd, 1) := by decide +kernel
theorem dX1_interpolate_29 : decode cX1_interpolate 29 = .ok (.istore 6, 2) := by decide +kernel
theorem dX1_interpolate_31 : decode cX1_interpolate 31 = .ok (.iload 6, 2) := by decide +kernel
theorem dX1_interpolate_33 : decode cX1_interpolate 33 = .ok (.ifCond .gt 4, 3) := by decide +kernel
theorem dX1_interpolate_36 : decode cX1_interpolate 36 = .ok (.return_, 1) := by decide +kernel
theorem dX1_interpolate_37 : decode cX1_interpolate 37 = .ok (.iload_n 2, 1) := by decide +kernel
theorem dX1_interpolate_38 : decode cX1_interpolate 38 = .ok (.istore 7, 2) := by decide +kernel
theorem dX1_interpolate_40 : decode cX1_interpolate 40 = .ok (.iload 7, 2) := by decide +kernel
theorem dX1_interpolate_42 : decode cX1_interpolate 42 = .ok (.iload_n 3, 1) := by decide +kernel
theorem dX1_interpolate_43 : decode cX1_interpolate 43 = .ok (.if_icmp .gt 50, 3) := by decide +kernel
theorem dX1_interpolate_46 : decode cX1_interpolate 46 = .ok (.aload_n 0, 1) := by decide +kernel
theorem dX1_interpolate_47 : decode cX1_interpolate 47 = .ok (.getfield 11, 3) := by decide +kernel
theorem dX1_interpolate_50 : decode cX1_interpolate 50 = .ok (.iload_n 1, 1) := by decide +kernel
theorem dX1_interpolate_51 : decode cX1_interpolate 51 = .ok (.aaload, 1) := by decide +kernel
theorem dX1_interpolate_52 : decode cX1_interpolate 52 = .ok (.iload 7, 2) := by decide +kernel
theorem dX1_interpolate_54 : decode cX1_interpolate 54 = .ok (.iload 4, 2) := by decide +kernel
theorem dX1_interpolate_56 : decode cX1_interpolate 56 = .ok (.iload_n 3, 1) := by decide +kernel
theorem dX1_interpolate_57 : decode cX1_interpolate 57 = .ok (.iconst 1, 1) := by decide +kernel
theorem dX1_interpolate_58 : decode cX1_interpolate 58 = .ok (.iadd, 1) := by decide +kernel
theorem dX1_interpolate_59 : decode cX1_interpolate 59 = .ok (.iload 7, 2) := by decide +kernel
theorem dX1_interpolate_61 : decode cX1_interpolate 61 = .ok (.isub, 1) := by decide +kernel
theorem dX1_interpolate_62 : decode cX1_interpolate 62 = .ok (.imul, 1) := by decide +kernel
theorem dX1_interpolate_63 : decode cX1_interpolate 63 = .ok (.iload 5, 2) := by decide +kernel
theorem dX1_interpolate_65 : decode cX1_interpolate 65 = .ok (.iload 7, 2) := by decide +kernel
theorem dX1_interpolate_67 : decode cX1_interpolate 67 = .ok (.iload_n 2, 1) := by decide +kernel
theorem dX1_interpolate_68 : decode cX1_interpolate 68 = .ok (.isub, 1) := by decide +kernel
theorem dX1_interpolate_69 : decode cX1_interpolate 69 = .ok (.iconst 1, 1) := by decide +kernel
theorem dX1_interpolate_70 : decode cX1_interpolate 70 = .ok (.iadd, 1) := by decide +kernel
theorem dX1_interpolate_71 : decode cX1_interpolate 71 = .ok (.imul, 1) := by decide +kernel
theorem dX1_interpolate_72 : decode cX1_interpolate 72 = .ok (.iadd, 1) := by decide +kernel
theorem dX1_interpolate_73 : decode cX1_interpolate 73 = .ok (.iload 6, 2) := by decide +kernel
theorem dX1_interpolate_75 : decode cX1_interpolate 75 = .ok (.idiv, 1) := by decide +kernel
theorem dX1_interpolate_76 : decode cX1_interpolate 76 = .ok (.iastore, 1) := by decide +kernel
theorem dX1_interpolate_77 : decode cX1_interpolate 77 = .ok (.aload_n 0, 1) := by decide +kernel
theorem dX1_interpolate_78 : decode cX1_interpolate 78 = .ok (.getfield 16, 3) := by decide +kernel
theorem dX1_interpolate_81 : decode cX1_interpolate 81 = .ok (.iload_n 1, 1) := by decide +kernel
theorem dX1_interpolate_82 : decode cX1_interpolate 82 = .ok (.aaload, 1) := by decide +kernel
theorem dX1_interpolate_83 : decode cX1_interpolate 83 = .ok (.iload 7, 2) := by decide +kernel
theorem dX1_interpolate_85 : decode cX1_interpolate 85 = .ok (.iconst 2, 1) := by decide +kernel
theorem dX1_interpolate_86 : decode cX1_interpolate 86 = .ok (.iastore, 1) := by decide +kernel
theorem dX1_interpolate_87 : decode cX1_interpolate 87 = .ok (.iinc 7 1, 3) := by decide +kernel
theorem dX1_interpolate_90 : decode cX1_interpolate 90 = .ok (.goto (-50), 3) := by decide +kernel
theorem dX1_interpolate_93 : decode cX1_interpolate 93 = .ok (.return_, 1) := by decide +kernel
abbrev rm_X1_interpolate : Room := { frames := 0, cells := 0, slots := 0, locals := 0 }
theorem hy_X1_interpolate : yX1_interpolate.cls ≠ "java/lang/invoke/MethodHandle" ∧ yX1_interpolate.cls ≠ "java/lang/invoke/VarHandle" ∧ (parseMethodDescriptor yX1_interpolate.desc).map (fun d => d.parameters.length) = some 3 := by decide +kernel
def wb_X1_interpolate_40  (Q : z_S → Prop) (k40 : Int32 → Int32 → Int32 → Int32 → Int32 → Int32 → Int32 → z_S → Prop) (x1 : Int32) (x2 : Int32) (x3 : Int32) (x4 : Int32) (x5 : Int32) (x6 : Int32) (x7 : Int32) (σ : z_S) : Prop :=
  if x3 < x7 then (Q σ) else (vp_in x1 10 ∧ ¬ x6 = 0 ∧ vp_in x7 12 ∧ ∀ σ13 : z_S, σ13 = zs_i σ (31 + x1.toNatClampNeg) x7.toNatClampNeg (((x4 * ((x3 + (1 : Int32)) - x7)) + (x5 * ((x7 - x2) + (1 : Int32)))) / x6) → vp_in x1 10 ∧ vp_in x7 12 ∧ ∀ σ16 : z_S, σ16 = zs_i σ13 (42 + x1.toNatClampNeg) x7.toNatClampNeg (2 : Int32) → ∀ y17 : Int32, y17 = (x7 + (1 : Int32)) → k40 x1 x2 x3 x4 x5 x6 y17 σ16)
def w_X1_interpolate_40  (Q : z_S → Prop) : Nat → Int32 → Int32 → Int32 → Int32 → Int32 → Int32 → Int32 → z_S → Prop
  | 0 => fun _ _ _ _ _ _ _ _ => False
  | n + 1 => wb_X1_interpolate_40  Q (w_X1_interpolate_40  Q n)
def w_X1_interpolate (a1 : Int32) (a2 : Int32) (a3 : Int32) (σ : z_S) (Q : z_S → Prop) : Prop :=
  vp_in a1 10 ∧ vp_in (a2 - (1 : Int32)) 12 ∧ ∀ y3 : Int32, y3 = (zg_i σ (31 + a1.toNatClampNeg) (a2 - (1 : Int32)).toNatClampNeg) → vp_in a1 10 ∧ vp_in (a3 + (1 : Int32)) 12 ∧ ∀ y6 : Int32, y6 = (zg_i σ (31 + a1.toNatClampNeg) (a3 + (1 : Int32)).toNatClampNeg) → ∀ y7 : Int32, y7 = ((a3 - a2) + (2 : Int32)) → if 0 < y7 then (w_X1_interpolate_40 Q 400 a1 a2 a3 y3 y6 y7 a2 σ) else (Q σ)
set_option maxHeartbeats 4000000 in
set_option maxRecDepth 100000 in
theorem t_X1_interpolate_40 {l : Launch} {D : va_G} {cI cJ cM cS : ClassId} {n0 : Nat} {p : Program} {e : Env} {s : State} {m : MethodId} {args : Array Value} {below : List Frame} {meth : Method} {c : Code}  {Q : z_S → Prop} (hX : z_X D cI cJ cM cS p s m args c cX1_interpolate 8 yX1_interpolate.cls) (hY : z_Y s meth none)  : ∀ (n : Nat) (x1 : Int32) (x2 : Int32) (x3 : Int32) (x4 : Int32) (x5 : Int32) (x6 : Int32) (x7 : Int32) (σ : z_S), w_X1_interpolate_40  Q n x1 x2 x3 x4 x5 x6 x7 σ → z_t D cI cJ cM cS n0 p l e rm_X1_interpolate s m args below meth c 8 (MQ below (va_Qv Q (fun u t => z_Bq D cI cJ cM cS n0 u t) (z_Ab n0)) args s 0 0 (z_Ab n0)) 0 0 40 [(0, .ref (n0 + 29)), (1, .int x1), (2, .int x2), (3, .int x3), (4, .int x4), (5, .int x5), (6, .int x6), (7, .int x7)] [] σ := by
  intro n
  induction n with
  | zero => intro _ _ _ _ _ _ _ _ hf; exact hf.elim
  | succ n ih40 =>
    intro x1 x2 x3 x4 x5 x6 x7 σ hf
    have hf : wb_X1_interpolate_40  Q (w_X1_interpolate_40  Q n) x1 x2 x3 x4 x5 x6 x7 σ := hf
    unfold wb_X1_interpolate_40 at hf
    refine zt_iload hX 7 dX1_interpolate_40 rfl ?_
    refine zt_iload_n hX 3 dX1_interpolate_42 rfl rfl ?_
    refine zt_icmp_gt hX dX1_interpolate_43 (tgt := 93) (by decide) (fun c9 => ?_) (fun c9 => ?_)
    · replace hf := z_pos hf c9
      exact zt_vret hX hY dX1_interpolate_93 hf
    · replace hf := z_neg hf c9
      refine zt_aload_n hX 0 dX1_interpolate_46 rfl rfl ?_
      refine zt_get_X1 hX (by decide) (zE_29 _ _) 0 (by decide) kw_166 rfl rfl dX1_interpolate_47 ?_
      refine zt_iload_n hX 1 dX1_interpolate_50 rfl rfl ?_
      obtain ⟨h10, hf⟩ := hf
      refine zt_aaloadM hX dX1_interpolate_51 (by decide) rfl (k1 := 31) rfl h10 ?_
      refine zt_iload hX 7 dX1_interpolate_52 rfl ?_
      refine zt_iload hX 4 dX1_interpolate_54 rfl ?_
      refine zt_iload_n hX 3 dX1_interpolate_56 rfl rfl ?_
      refine zt_iconst hX dX1_interpolate_57 (v := (1 : Int32)) (by decide) ?_
      refine zt_iadd hX dX1_interpolate_58 ?_
      refine zt_iload hX 7 dX1_interpolate_59 rfl ?_
      refine zt_isub hX dX1_interpolate_61 ?_
      refine zt_imul hX dX1_interpolate_62 ?_
      refine zt_iload hX 5 dX1_interpolate_63 rfl ?_
      refine zt_iload hX 7 dX1_interpolate_65 rfl ?_
      refine zt_iload_n hX 2 dX1_interpolate_67 rfl rfl ?_
      refine zt_isub hX dX1_interpolate_68 ?_
      refine zt_iconst hX dX1_interpolate_69 (v := (1 : Int32)) (by decide) ?_
      refine zt_iadd hX dX1_interpolate_70 ?_
      refine zt_imul hX dX1_interpolate_71 ?_
      refine zt_iadd hX dX1_interpolate_72 ?_
      refine zt_iload hX 6 dX1_interpolate_73 rfl ?_
      obtain ⟨h11, hf⟩ := hf
      refine zt_idiv hX dX1_interpolate_75 h11 ?_
      obtain ⟨h12, hf⟩ := hf
      refine zt_iastore hX dX1_interpolate_76 (z_row31 (z_lt h10)) (z_sh31 (z_lt h10)) h12 ?_
      refine zt_nms (fun σ13 d13 => ?_)
      replace hf := hf σ13 d13
      refine zt_aload_n hX 0 dX1_interpolate_77 rfl rfl ?_
      refine zt_get_X1 hX (by decide) (zE_29 _ _) 1 (by decide) kw_169 rfl rfl dX1_interpolate_78 ?_
      refine zt_iload_n hX 1 dX1_interpolate_81 rfl rfl ?_
      obtain ⟨h14, hf⟩ := hf
      refine zt_aaloadM hX dX1_interpolate_82 (by decide) rfl (k1 := 42) rfl h14 ?_
      refine zt_iload hX 7 dX1_interpolate_83 rfl ?_
      refine zt_iconst hX dX1_interpolate_85 (v := (2 : Int32)) (by decide) ?_
      obtain ⟨h15, hf⟩ := hf
      refine zt_iastore hX dX1_interpolate_86 (z_row42 (z_lt h14)) (z_sh42 (z_lt h14)) h15 ?_
      refine zt_nms (fun σ16 d16 => ?_)
      replace hf := hf σ16 d16
      obtain ⟨y17, e17⟩ : ∃ y : Int32, y = (x7 + (1 : Int32)) := ⟨_, rfl⟩
      replace hf := hf y17 e17
      refine zt_iinc (L' := [(7, .int y17), (0, .ref (n0 + 29)), (1, .int x1), (2, .int x2), (3, .int x3), (4, .int x4), (5, .int x5), (6, .int x6)]) hX 7 dX1_interpolate_87 rfl (v := y17) (by rw [e17]; rfl) (by decide) rfl ?_
      refine zt_goto hX dX1_interpolate_90 (tgt := 40) (by decide) ?_
      exact zt_sub [1, 2, 3, 4, 5, 6, 7, 0] rfl (ih40 _ _ _ _ _ _ _ _ hf)
set_option maxHeartbeats 4000000 in
set_option maxRecDepth 100000 in
theorem c_X1_interpolate {l : Launch} {D : va_G} {cI cJ cM cS : ClassId} {n0 : Nat} {a1 : Int32} {a2 : Int32} {a3 : Int32} {σ : z_S} {Q : z_S → Prop} (hf : w_X1_interpolate a1 a2 a3 σ Q) : z_cv l D cI cJ cM cS n0 yX1_interpolate cX1_interpolate 8 rm_X1_interpolate 0 0 [.ref (n0 + 29), .int a1, .int a2, .int a3] σ Q := by
  refine z_ofv (by decide +kernel) (Nat.le_of_ble_eq_true rfl) (fun p e s m args below meth c hX hY => ?_)
  unfold w_X1_interpolate at hf
  refine zt_L (L' := [(0, .ref (n0 + 29)), (1, .int a1), (2, .int a2), (3, .int a3)]) rfl ?_
  refine zt_aload_n hX 0 dX1_interpolate_0 rfl rfl ?_
  refine zt_get_X1 hX (by decide) (zE_29 _ _) 0 (by decide) kw_166 rfl rfl dX1_interpolate_1 ?_
  refine zt_iload_n hX 1 dX1_interpolate_4 rfl rfl ?_
  obtain ⟨h1, hf⟩ := hf
  refine zt_aaloadM hX dX1_interpolate_5 (by decide) rfl (k1 := 31) rfl h1 ?_
  refine zt_iload_n hX 2 dX1_interpolate_6 rfl rfl ?_
  refine zt_iconst hX dX1_interpolate_7 (v := (1 : Int32)) (by decide) ?_
  refine zt_isub hX dX1_interpolate_8 ?_
  obtain ⟨h2, hf⟩ := hf
  refine zt_iaload hX dX1_interpolate_9 (z_row31 (z_lt h1)) (z_sh31 (z_lt h1)) h2 ?_
  refine zt_nmi (fun y3 e3 => ?_)
  replace hf := hf y3 e3
  refine zt_istore (L' := [(4, .int y3), (0, .ref (n0 + 29)), (1, .int a1), (2, .int a2), (3, .int a3)]) hX dX1_interpolate_10 (by decide) rfl ?_
  refine zt_aload_n hX 1 dX1_interpolate_12 rfl rfl ?_
  refine zt_get_X1 hX (by decide) (zE_29 _ _) 0 (by decide) kw_166 rfl rfl dX1_interpolate_13 ?_
  refine zt_iload_n hX 2 dX1_interpolate_16 rfl rfl ?_
  obtain ⟨h4, hf⟩ := hf
  refine zt_aaloadM hX dX1_interpolate_17 (by decide) rfl (k1 := 31) rfl h4 ?_
  refine zt_iload_n hX 4 dX1_interpolate_18 rfl rfl ?_
  refine zt_iconst hX dX1_interpolate_19 (v := (1 : Int32)) (by decide) ?_
  refine zt_iadd hX dX1_interpolate_20 ?_
  obtain ⟨h5, hf⟩ := hf
  refine zt_iaload hX dX1_interpolate_21 (z_row31 (z_lt h4)) (z_sh31 (z_lt h4)) h5 ?_
  refine zt_nmi (fun y6 e6 => ?_)
  replace hf := hf y6 e6
  refine zt_istore (L' := [(5, .int y6), (4, .int y3), (0, .ref (n0 + 29)), (1, .int a1), (2, .int a2), (3, .int a3)]) hX dX1_interpolate_22 (by decide) rfl ?_
  refine zt_iload_n hX 5 dX1_interpolate_24 rfl rfl ?_
  refine zt_iload_n hX 4 dX1_interpolate_25 rfl rfl ?_
  refine zt_isub hX dX1_interpolate_26 ?_
  refine zt_iconst hX dX1_interpolate_27 (v := (2 : Int32)) (by decide) ?_
  refine zt_iadd hX dX1_interpolate_28 ?_
  refine zt_nmi (fun y7 e7 => ?_)
  replace hf := hf y7 e7
  refine zt_istore (L' := [(6, .int y7), (5, .int y6), (4, .int y3), (0, .ref (n0 + 29)), (1, .int a1), (2, .int a2), (3, .int a3)]) hX dX1_interpolate_29 (by decide) rfl ?_
  refine zt_iload hX 0 dX1_interpolate_31 rfl ?_
  refine zt_if_gt hX dX1_interpolate_33 (tgt := 37) (by decide) (fun c8 => ?_) (fun c8 => ?_)
  · replace hf := z_pos hf c8
    refine zt_iload_n hX 5 dX1_interpolate_37 rfl rfl ?_
    refine zt_istore (L' := [(7, .int a2), (6, .int y7), (5, .int y6), (4, .int y3), (0, .ref (n0 + 29)), (1, .int a1), (2, .int a2), (3, .int a3)]) hX dX1_interpolate_38 (by decide) rfl ?_
    exact zt_sub [4, 5, 6, 7, 3, 2, 1, 0] rfl (t_X1_interpolate_40 hX hY 400 _ _ _ _ _ _ _ _ hf)
  · replace hf := z_neg hf c8
    exact zt_vret hX hY dX1_interpolate_36 hf

theorem dX1_isAllMissing_0 : decode cX1_isAllMissing 0 = .ok (.iload_n 1, 1) := by decide +kernel
theorem dX1_isAllMissing_1 : decode cX1_isAllMissing 1 = .ok (.istore_n 3, 1) := by decide +kernel
theorem dX1_isAllMissing_2 : decode cX1_isAllMissing 2 = .ok (.iload_n 3, 1) := by decide +kernel
theorem dX1_isAllMissing_3 : decode cX1_isAllMissing 3 = .ok (.iload_n 2, 1) := by decide +kernel
theorem dX1_isAllMissing_4 : decode cX1_isAllMissing 4 = .ok (.if_icmp .gt 21, 3) := by decide +kernel
theorem dX1_isAllMissing_7 : decode cX1_isAllMissing 7 = .ok (.aload_n 0, 1) := by decide +kernel
theorem dX1_isAllMissing_8 : decode cX1_isAllMissing 8 = .ok (.getfield 19, 3) := by decide +kernel
theorem dX1_isAllMissing_11 : decode cX1_isAllMissing 11 = .ok (.iload_n 3, 1) := by decide +kernel
theorem dX1_isAllMissing_12 : decode cX1_isAllMissing 12 = .ok (.iaload, 1) := by decide +kernel
theorem dX1_isAllMissing_13 : decode cX1_isAllMissing 13 = .ok (.iconst 1, 1) := by decide +kernel
theorem dX1_isAllMissing_14 : decode cX1_isAllMissing 14 = .ok (.if_icmp .eq 5, 3) := by decide +kernel
theorem dX1_isAllMissing_17 : decode cX1_isAllMissing 17 = .ok (.iconst 0, 1) := by decide +kernel
theorem dX1_isAllMissing_18 : decode cX1_isAllMissing 18 = .ok (.ireturn, 1) := by decide +kernel
theorem dX1_isAllMissing_19 : decode cX1_isAllMissing 19 = .ok (.iinc 3 1, 3) := by decide +kernel
theorem dX1_isAllMissing_22 : decode cX1_isAllMissing 22 = .ok (.goto (-20), 3) := by decide +kernel
theorem dX1_isAllMissing_25 : decode cX1_isAllMissing 25 = .ok (.iconst 1, 1) := by decide +kernel
theorem dX1_isAllMissing_26 : decode cX1_isAllMissing 26 = .ok (.ireturn, 1) := by decide +kernel
abbrev rm_X1_isAllMissing : Room := { frames := 0, cells := 0, slots := 0, locals := 0 }
theorem hy_X1_isAllMissing : yX1_isAllMissing.cls ≠ "java/lang/invoke/MethodHandle" ∧ yX1_isAllMissing.cls ≠ "java/lang/invoke/VarHandle" ∧ (parseMethodDescriptor yX1_isAllMissing.desc).map (fun d => d.parameters.length) = some 2 := by decide +kernel
def wb_X1_isAllMissing_2  (Q : Int32 → z_S → Prop) (k2 : Int32 → Int32 → z_S → Prop) (x2 : Int32) (x3 : Int32) (σ : z_S) : Prop :=
  if x2 < x3 then (((1 : Int32) = 0 ∨ (1 : Int32) = 1) ∧ Q (1 : Int32) σ) else (vp_in x3 12 ∧ if (zg_i σ 52 x3.toNatClampNeg) = (1 : Int32) then (∀ y4 : Int32, y4 = (x3 + (1 : Int32)) → k2 x2 y4 σ) else (((0 : Int32) = 0 ∨ (0 : Int32) = 1) ∧ Q (0 : Int32) σ))
def w_X1_isAllMissing_2  (Q : Int32 → z_S → Prop) : Nat → Int32 → Int32 → z_S → Prop
  | 0 => fun _ _ _ => False
  | n + 1 => wb_X1_isAllMissing_2  Q (w_X1_isAllMissing_2  Q n)
def w_X1_isAllMissing (a1 : Int32) (a2 : Int32) (σ : z_S) (Q : Int32 → z_S → Prop) : Prop :=
  w_X1_isAllMissing_2 Q 400 a2 a1 σ
set_option maxHeartbeats 4000000 in
set_option maxRecDepth 100000 in
theorem t_X1_isAllMissing_2 {l : Launch} {D : va_G} {cI cJ cM cS : ClassId} {n0 : Nat} {p : Program} {e : Env} {s : State} {m : MethodId} {args : Array Value} {below : List Frame} {meth : Method} {c : Code}  {Q : Int32 → z_S → Prop} (hX : z_X D cI cJ cM cS p s m args c cX1_isAllMissing 4 yX1_isAllMissing.cls) (hY : z_Y s meth (some .boolean))  : ∀ (n : Nat) (x2 : Int32) (x3 : Int32) (σ : z_S), w_X1_isAllMissing_2  Q n x2 x3 σ → z_t D cI cJ cM cS n0 p l e rm_X1_isAllMissing s m args below meth c 4 (MQ below (va_Qi Q (fun u t => z_Bq D cI cJ cM cS n0 u t) (z_Ab n0)) args s 0 0 (z_Ab n0)) 0 0 2 [(0, .ref (n0 + 29)), (2, .int x2), (3, .int x3)] [] σ := by
  intro n
  induction n with
  | zero => intro _ _ _ hf; exact hf.elim
  | succ n ih2 =>
    intro x2 x3 σ hf
    have hf : wb_X1_isAllMissing_2  Q (w_X1_isAllMissing_2  Q n) x2 x3 σ := hf
    unfold wb_X1_isAllMissing_2 at hf
    refine zt_iload_n hX 2 dX1_isAllMissing_2 rfl rfl ?_
    refine zt_iload_n hX 1 dX1_isAllMissing_3 rfl rfl ?_
    refine zt_icmp_gt hX dX1_isAllMissing_4 (tgt := 25) (by decide) (fun c1 => ?_) (fun c1 => ?_)
    · replace hf := z_pos hf c1
      refine zt_iconst hX dX1_isAllMissing_25 (v := (1 : Int32)) (by decide) ?_
      exact zt_zret hX hY dX1_isAllMissing_26 hf
    · replace hf := z_neg hf c1
      refine zt_aload_n hX 0 dX1_isAllMissing_7 rfl rfl ?_
      refine zt_get_X1 hX (by decide) (zE_29 _ _) 2 (by decide) kw_171 rfl rfl dX1_isAllMissing_8 ?_
      refine zt_iload_n hX 2 dX1_isAllMissing_11 rfl rfl ?_
      obtain ⟨h2, hf⟩ := hf
      refine zt_iaload hX dX1_isAllMissing_12 (by decide) rfl h2 ?_
      refine zt_iconst hX dX1_isAllMissing_13 (v := (1 : Int32)) (by decide) ?_
      refine zt_icmp_eq hX dX1_isAllMissing_14 (tgt := 19) (by decide) (fun c3 => ?_) (fun c3 => ?_)
      · replace hf := z_pos hf c3
        obtain ⟨y4, e4⟩ : ∃ y : Int32, y = (x3 + (1 : Int32)) := ⟨_, rfl⟩
        replace hf := hf y4 e4
        refine zt_iinc (L' := [(3, .int y4), (0, .ref (n0 + 29)), (2, .int x2)]) hX 2 dX1_isAllMissing_19 rfl (v := y4) (by rw [e4]; rfl) (by decide) rfl ?_
        refine zt_goto hX dX1_isAllMissing_22 (tgt := 2) (by decide) ?_
        exact zt_sub [1, 2, 0] rfl (ih2 _ _ _ hf)
      · replace hf := z_neg hf c3
        refine zt_iconst hX dX1_isAllMissing_17 (v := (0 : Int32)) (by decide) ?_
        exact zt_zret hX hY dX1_isAllMissing_18 hf
set_option maxHeartbeats 4000000 in
set_option maxRecDepth 100000 in
theorem c_X1_isAllMissing {l : Launch} {D : va_G} {cI cJ cM cS : ClassId} {n0 : Nat} {a1 : Int32} {a2 : Int32} {σ : z_S} {Q : Int32 → z_S → Prop} (hf : w_X1_isAllMissing a1 a2 σ Q) : z_ci l D cI cJ cM cS n0 yX1_isAllMissing cX1_isAllMissing 4 .boolean rm_X1_isAllMissing 0 0 [.ref (n0 + 29), .int a1, .int a2] σ Q := by
  refine z_ofi (by decide +kernel) (Nat.le_of_ble_eq_true rfl) (fun p e s m args below meth c hX hY => ?_)
  unfold w_X1_isAllMissing at hf
  refine zt_L (L' := [(0, .ref (n0 + 29)), (1, .int a1), (2, .int a2)]) rfl ?_
  refine zt_iload_n hX 1 dX1_isAllMissing_0 rfl rfl ?_
  refine zt_istore_n (L' := [(3, .int a1), (0, .ref (n0 + 29)), (1, .int a1), (2, .int a2)]) hX dX1_isAllMissing_1 rfl (by decide) rfl ?_
  exact zt_sub [1, 3, 0] rfl (t_X1_isAllMissing_2 hX hY 400 _ _ _ hf)

theorem dX1_level_0 : decode cX1_level 0 = .ok (.iload_n 2, 1) := by decide +kernel
theorem dX1_level_1 : decode cX1_level 1 = .ok (.istore 6, 2) := by decide +kernel
theorem dX1_level_3 : decode cX1_level 3 = .ok (.iload 6, 2) := by decide +kernel
theorem dX1_level_5 : decode cX1_level 5 = .ok (.iload_n 3, 1) := by decide +kernel
theorem dX1_level_6 : decode cX1_level 6 = .ok (.if_icmp .gt 31, 3) := by decide +kernel
theorem dX1_level_9 : decode cX1_level 9 = .ok (.aload_n 0, 1) := by decide +kernel
theorem dX1_level_10 : decode cX1_level 10 = .ok (.getfield 11, 3) := by decide +kernel
theorem dX1_level_13 : decode cX1_level 13 = .ok (.iload_n 1, 1) := by decide +kernel
theorem dX1_level_14 : decode cX1_level 14 = .ok (.aaload, 1) := by decide +kernel
theorem dX1_level_15 : decode cX1_level 15 = .ok (.iload 6, 2) := by decide +kernel
theorem dX1_level_17 : decode cX1_level 17 = .ok (.iload 4, 2) := by decide +kernel
theorem dX1_level_19 : decode cX1_level 19 = .ok (.iastore, 1) := by decide +kernel
theorem dX1_level_20 : decode cX1_level 20 = .ok (.aload_n 0, 1) := by decide +kernel
theorem dX1_level_21 : decode cX1_level 21 = .ok (.getfield 16, 3) := by decide +kernel
theorem dX1_level_24 : decode cX1_level 24 = .ok (.iload_n 1, 1) := by decide +kernel
theorem dX1_level_25 : decode cX1_level 25 = .ok (.aaload, 1) := by decide +kernel
theorem dX1_level_26 : decode cX1_level 26 = .ok (.iload 6, 2) := by decide +kernel
theorem dX1_level_28 : decode cX1_level 28 = .ok (.iload 5, 2) := by decide +kernel
theorem dX1_level_30 : decode cX1_level 30 = .ok (.iastore, 1) := by decide +kernel
theorem dX1_level_31 : decode cX1_level 31 = .ok (.iinc 6 1, 3) := by decide +kernel
theorem dX1_level_34 : decode cX1_level 34 = .ok (.goto (-31), 3) := by decide +kernel
theorem dX1_level_37 : decode cX1_level 37 = .ok (.return_, 1) := by decide +kernel
abbrev rm_X1_level : Room := { frames := 0, cells := 0, slots := 0, locals := 0 }
theorem hy_X1_level : yX1_level.cls ≠ "java/lang/invoke/MethodHandle" ∧ yX1_level.cls ≠ "java/lang/invoke/VarHandle" ∧ (parseMethodDescriptor yX1_level.desc).map (fun d => d.parameters.length) = some 5 := by decide +kernel
def wb_X1_level_3  (Q : z_S → Prop) (k3 : Int32 → Int32 → Int32 → Int32 → Int32 → z_S → Prop) (x1 : Int32) (x3 : Int32) (x4 : Int32) (x5 : Int32) (x6 : Int32) (σ : z_S) : Prop :=
  if x3 < x6 then (Q σ) else (vp_in x1 10 ∧ vp_in x6 12 ∧ ∀ σ4 : z_S, σ4 = zs_i σ (31 + x1.toNatClampNeg) x6.toNatClampNeg x4 → vp_in x1 10 ∧ vp_in x6 12 ∧ ∀ σ7 : z_S, σ7 = zs_i σ4 (42 + x1.toNatClampNeg) x6.toNatClampNeg x5 → ∀ y8 : Int32, y8 = (x6 + (1 : Int32)) → k3 x1 x3 x4 x5 y8 σ7)
def w_X1_level_3  (Q : z_S → Prop) : Nat → Int32 → Int32 → Int32 → Int32 → Int32 → z_S → Prop
  | 0 => fun _ _ _ _ _ _ => False
  | n + 1 => wb_X1_level_3  Q (w_X1_level_3  Q n)
def w_X1_level (a1 : Int32) (a2 : Int32) (a3 : Int32) (a4 : Int32) (a5 : Int32) (σ : z_S) (Q : z_S → Prop) : Prop :=
  w_X1_level_3 Q 400 a1 a3 a4 a5 a2 σ
set_option maxHeartbeats 4000000 in
set_option maxRecDepth 100000 in
theorem t_X1_level_3 {l : Launch} {D : va_G} {cI cJ cM cS : ClassId} {n0 : Nat} {p : Program} {e : Env} {s : State} {m : MethodId} {args : Array Value} {below : List Frame} {meth : Method} {c : Code}  {Q : z_S → Prop} (hX : z_X D cI cJ cM cS p s m args c cX1_level 7 yX1_level.cls) (hY : z_Y s meth none)  : ∀ (n : Nat) (x1 : Int32) (x3 : Int32) (x4 : Int32) (x5 : Int32) (x6 : Int32) (σ : z_S), w_X1_level_3  Q n x1 x3 x4 x5 x6 σ → z_t D cI cJ cM cS n0 p l e rm_X1_level s m args below meth c 7 (MQ below (va_Qv Q (fun u t => z_Bq D cI cJ cM cS n0 u t) (z_Ab n0)) args s 0 0 (z_Ab n0)) 0 0 3 [(0, .ref (n0 + 29)), (1, .int x1), (3, .int x3), (4, .int x4), (5, .int x5), (6, .int x6)] [] σ := by
  intro n
  induction n with
  | zero => intro _ _ _ _ _ _ hf; exact hf.elim
  | succ n ih3 =>
    intro x1 x3 x4 x5 x6 σ hf
    have hf : wb_X1_level_3  Q (w_X1_level_3  Q n) x1 x3 x4 x5 x6 σ := hf
    unfold wb_X1_level_3 at hf
    refine zt_iload hX 5 dX1_level_3 rfl ?_
    refine zt_iload_n hX 2 dX1_level_5 rfl rfl ?_
    refine zt_icmp_gt hX dX1_level_6 (tgt := 37) (by decide) (fun c1 => ?_) (fun c1 => ?_)
    · replace hf := z_pos hf c1
      exact zt_vret hX hY dX1_level_37 hf
    · replace hf := z_neg hf c1
      refine zt_aload_n hX 0 dX1_level_9 rfl rfl ?_
      refine zt_get_X1 hX (by decide) (zE_29 _ _) 0 (by decide) kw_166 rfl rfl dX1_level_10 ?_
      refine zt_iload_n hX 1 dX1_level_13 rfl rfl ?_
      obtain ⟨h2, hf⟩ := hf
      refine zt_aaloadM hX dX1_level_14 (by decide) rfl (k1 := 31) rfl h2 ?_
      refine zt_iload hX 5 dX1_level_15 rfl ?_
      refine zt_iload hX 3 dX1_level_17 rfl ?_
      obtain ⟨h3, hf⟩ := hf
      refine zt_iastore hX dX1_level_19 (z_row31 (z_lt h2)) (z_sh31 (z_lt h2)) h3 ?_
      refine zt_nms (fun σ4 d4 => ?_)
      replace hf := hf σ4 d4
      refine zt_aload_n hX 0 dX1_level_20 rfl rfl ?_
      refine zt_get_X1 hX (by decide) (zE_29 _ _) 1 (by decide) kw_169 rfl rfl dX1_level_21 ?_
      refine zt_iload_n hX 1 dX1_level_24 rfl rfl ?_
      obtain ⟨h5, hf⟩ := hf
      refine zt_aaloadM hX dX1_level_25 (by decide) rfl (k1 := 42) rfl h5 ?_
      refine zt_iload hX 5 dX1_level_26 rfl ?_
      refine zt_iload hX 4 dX1_level_28 rfl ?_
      obtain ⟨h6, hf⟩ := hf
      refine zt_iastore hX dX1_level_30 (z_row42 (z_lt h5)) (z_sh42 (z_lt h5)) h6 ?_
      refine zt_nms (fun σ7 d7 => ?_)
      replace hf := hf σ7 d7
      obtain ⟨y8, e8⟩ : ∃ y : Int32, y = (x6 + (1 : Int32)) := ⟨_, rfl⟩
      replace hf := hf y8 e8
      refine zt_iinc (L' := [(6, .int y8), (0, .ref (n0 + 29)), (1, .int x1), (3, .int x3), (4, .int x4), (5, .int x5)]) hX 5 dX1_level_31 rfl (v := y8) (by rw [e8]; rfl) (by decide) rfl ?_
      refine zt_goto hX dX1_level_34 (tgt := 3) (by decide) ?_
      exact zt_sub [1, 2, 3, 4, 5, 0] rfl (ih3 _ _ _ _ _ _ hf)
set_option maxHeartbeats 4000000 in
set_option maxRecDepth 100000 in
theorem c_X1_level {l : Launch} {D : va_G} {cI cJ cM cS : ClassId} {n0 : Nat} {a1 : Int32} {a2 : Int32} {a3 : Int32} {a4 : Int32} {a5 : Int32} {σ : z_S} {Q : z_S → Prop} (hf : w_X1_level a1 a2 a3 a4 a5 σ Q) : z_cv l D cI cJ cM cS n0 yX1_level cX1_level 7 rm_X1_level 0 0 [.ref (n0 + 29), .int a1, .int a2, .int a3, .int a4, .int a5] σ Q := by
  refine z_ofv (by decide +kernel) (Nat.le_of_ble_eq_true rfl) (fun p e s m args below meth c hX hY => ?_)
  unfold w_X1_level at hf
  refine zt_L (L' := [(0, .ref (n0 + 29)), (1, .int a1), (2, .int a2), (3, .int a3), (4, .int a4), (5, .int a5)]) rfl ?_
  refine zt_iload_n hX 2 dX1_level_0 rfl rfl ?_
  refine zt_istore (L' := [(6, .int a2), (0, .ref (n0 + 29)), (1, .int a1), (2, .int a2), (3, .int a3), (4, .int a4), (5, .int a5)]) hX dX1_level_1 (by decide) rfl ?_
  exact zt_sub [1, 2, 4, 5, 6, 0] rfl (t_X1_level_3 hX hY 400 _ _ _ _ _ _ hf)

theorem dX1_spread_0 : decode cX1_spread 0 = .ok (.iload_n 3, 1) := by decide +kernel
theorem dX1_spread_1 : decode cX1_spread 1 = .ok (.iload_n 2, 1) := by decide +kernel
theorem dX1_spread_2 : decode cX1_spread 2 = .ok (.isub, 1) := by decide +kernel
theorem dX1_spread_3 : decode cX1_spread 3 = .ok (.iconst 1, 1) := by decide +kernel
theorem dX1_spread_4 : decode cX1_spread 4 = .ok (.iadd, 1) := by decide +kernel
theorem dX1_spread_5 : decode cX1_spread 5 = .ok (.istore 5, 2) := by decide +kernel
theorem dX1_spread_7 : decode cX1_spread 7 = .ok (.iload 5, 2) := by decide +kernel
theorem dX1_spread_9 : decode cX1_spread 9 = .ok (.ifCond .gt 4, 3) := by decide +kernel
theorem dX1_spread_12 : decode cX1_spread 12 = .ok (.return_, 1) := by decide +kernel
theorem dX1_spread_13 : decode cX1_spread 13 = .ok (.iload 4, 2) := by decide +kernel
theorem dX1_spread_15 : decode cX1_spread 15 = .ok (.iload 5, 2) := by decide +kernel
theorem dX1_spread_17 : decode cX1_spread 17 = .ok (.irem, 1) := by decide +kernel
theorem dX1_spread_18 : decode cX1_spread 18 = .ok (.istore 6, 2) := by decide +kernel
theorem dX1_spread_20 : decode cX1_spread 20 = .ok (.iload_n 2, 1) := by decide +kernel
theorem dX1_spread_21 : decode cX1_spread 21 = .ok (.istore 7, 2) := by decide +kernel
theorem dX1_spread_23 : decode cX1_spread 23 = .ok (.iload 7, 2) := by decide +kernel
theorem dX1_spread_25 : decode cX1_spread 25 = .ok (.iload_n 3, 1) := by decide +kernel
theorem dX1_spread_26 : decode cX1_spread 26 = .ok (.if_icmp .gt 48, 3) := by decide +kernel
theorem dX1_spread_29 : decode cX1_spread 29 = .ok (.aload_n 0, 1) := by decide +kernel
theorem dX1_spread_30 : decode cX1_spread 30 = .ok (.getfield 11, 3) := by decide +kernel
theorem dX1_spread_33 : decode cX1_spread 33 = .ok (.iload_n 1, 1) := by decide +kernel
theorem dX1_spread_34 : decode cX1_spread 34 = .ok (.aaload, 1) := by decide +kernel
theorem dX1_spread_35 : decode cX1_spread 35 = .ok (.iload 7, 2) := by decide +kernel
theorem dX1_spread_37 : decode cX1_spread 37 = .ok (.iload 4, 2) := by decide +kernel
theorem dX1_spread_39 : decode cX1_spread 39 = .ok (.iload 5, 2) := by decide +kernel
theorem dX1_spread_41 : decode cX1_spread 41 = .ok (.idiv, 1) := by decide +kernel
theorem dX1_spread_42 : decode cX1_spread 42 = .ok (.iload 7, 2) := by decide +kernel
theorem dX1_spread_44 : decode cX1_spread 44 = .ok (.iload_n 2, 1) := by decide +kernel
theorem dX1_spread_45 : decode cX1_spread 45 = .ok (.isub, 1) := by decide +kernel
theorem dX1_spread_46 : decode cX1_spread 46 = .ok (.iload 6, 2) := by decide +kernel
theorem dX1_spread_48 : decode cX1_spread 48 = .ok (.if_icmp .ge 7, 3) := by decide +kernel
theorem dX1_spread_51 : decode cX1_spread 51 = .ok (.iconst 1, 1) := by decide +kernel
theorem dX1_spread_52 : decode cX1_spread 52 = .ok (.goto 4, 3) := by decide +kernel
theorem dX1_spread_55 : decode cX1_spread 55 = .ok (.iconst 0, 1) := by decide +kernel
theorem dX1_spread_56 : decode cX1_spread 56 = .ok (.iadd, 1) := by decide +kernel
theorem dX1_spread_57 : decode cX1_spread 57 = .ok (.iastore, 1) := by decide +kernel
theorem dX1_spread_58 : decode cX1_spread 58 = .ok (.aload_n 0, 1) := by decide +kernel
theorem dX1_spread_59 : decode cX1_spread 59 = .ok (.getfield 16, 3) := by decide +kernel
theorem dX1_spread_62 : decode cX1_spread 62 = .ok (.iload_n 1, 1) := by decide +kernel
theorem dX1_spread_63 : decode cX1_spread 63 = .ok (.aaload, 1) := by decide +kernel
theorem dX1_spread_64 : decode cX1_spread 64 = .ok (.iload 7, 2) := by decide +kernel
theorem dX1_spread_66 : decode cX1_spread 66 = .ok (.iconst 1, 1) := by decide +kernel
theorem dX1_spread_67 : decode cX1_spread 67 = .ok (.iastore, 1) := by decide +kernel
theorem dX1_spread_68 : decode cX1_spread 68 = .ok (.iinc 7 1, 3) := by decide +kernel
theorem dX1_spread_71 : decode cX1_spread 71 = .ok (.goto (-48), 3) := by decide +kernel
theorem dX1_spread_74 : decode cX1_spread 74 = .ok (.return_, 1) := by decide +kernel
abbrev rm_X1_spread : Room := { frames := 0, cells := 0, slots := 0, locals := 0 }
theorem hy_X1_spread : yX1_spread.cls ≠ "java/lang/invoke/MethodHandle" ∧ yX1_spread.cls ≠ "java/lang/invoke/VarHandle" ∧ (parseMethodDescriptor yX1_spread.desc).map (fun d => d.parameters.length) = some 4 := by decide +kernel
def w_X1_spread_56 (k23 : Int32 → Int32 → Int32 → Int32 → Int32 → Int32 → Int32 → z_S → Prop) (Q : z_S → Prop) (x1 : Int32) (x2 : Int32) (x3 : Int32) (x4 : Int32) (x5 : Int32) (x6 : Int32) (x7 : Int32) (s0 : Int32) (s1 : Int32) (s2 : Int32) (q3 : Nat) (σ : z_S) : Prop :=
  (q3 < 81 ∧ z_sh q3 = (10, 12)) ∧ vp_in s2 12 ∧ ∀ σ11 : z_S, σ11 = zs_i σ q3 s2.toNatClampNeg (s1 + s0) → vp_in x1 10 ∧ vp_in x7 12 ∧ ∀ σ14 : z_S, σ14 = zs_i σ11 (42 + x1.toNatClampNeg) x7.toNatClampNeg (1 : Int32) → ∀ y15 : Int32, y15 = (x7 + (1 : Int32)) → k23 x1 x2 x3 x4 x5 x6 y15 σ14
def wb_X1_spread_23  (Q : z_S → Prop) (k23 : Int32 → Int32 → Int32 → Int32 → Int32 → Int32 → Int32 → z_S → Prop) (x1 : Int32) (x2 : Int32) (x3 : Int32) (x4 : Int32) (x5 : Int32) (x6 : Int32) (x7 : Int32) (σ : z_S) : Prop :=
  if x3 < x7 then (Q σ) else (vp_in x1 10 ∧ ¬ x5 = 0 ∧ if x6 ≤ (x7 - x2) then (w_X1_spread_56 k23 Q x1 x2 x3 x4 x5 x6 x7 (0 : Int32) (x4 / x5) x7 (31 + x1.toNatClampNeg) σ) else (w_X1_spread_56 k23 Q x1 x2 x3 x4 x5 x6 x7 (1 : Int32) (x4 / x5) x7 (31 + x1.toNatClampNeg) σ))
def w_X1_spread_23  (Q : z_S → Prop) : Nat → Int32 → Int32 → Int32 → Int32 → Int32 → Int32 → Int32 → z_S → Prop
  | 0 => fun _ _ _ _ _ _ _ _ => False
  | n + 1 => wb_X1_spread_23  Q (w_X1_spread_23  Q n)
def w_X1_spread (a1 : Int32) (a2 : Int32) (a3 : Int32) (a4 : Int32) (σ : z_S) (Q : z_S → Prop) : Prop :=
  ∀ y1 : Int32, y1 = ((a3 - a2) + (1 : Int32)) → if 0 < y1 then (¬ y1 = 0 ∧ ∀ y4 : Int32, y4 = (a4 - a4 / y1 * y1) → w_X1_spread_23 Q 400 a1 a2 a3 a4 y1 y4 a2 σ) else (Q σ)
set_option maxHeartbeats 4000000 in
set_option maxRecDepth 100000 in
theorem t_X1_spread_56 {l : Launch} {D : va_G} {cI cJ cM cS : ClassId} {n0 : Nat} {p : Program} {e : Env} {s : State} {m : MethodId} {args : Array Value} {below : List Frame} {meth : Method} {c : Code} {k23 : Int32 → Int32 → Int32 → Int32 → Int32 → Int32 → Int32 → z_S → Prop} {Q : z_S → Prop} (hX : z_X D cI cJ cM cS p s m args c cX1_spread 8 yX1_spread.cls) (hY : z_Y s meth none) (hk23 : ∀ (x1 : Int32) (x2 : Int32) (x3 : Int32) (x4 : Int32) (x5 : Int32) (x6 : Int32) (x7 : Int32) (σ : z_S), k23 x1 x2 x3 x4 x5 x6 x7 σ → z_t D cI cJ cM cS n0 p l e rm_X1_spread s m args below meth c 8 (MQ below (va_Qv Q (fun u t => z_Bq D cI cJ cM cS n0 u t) (z_Ab n0)) args s 0 0 (z_Ab n0)) 0 0 23 [(0, .ref (n0 + 29)), (1, .int x1), (2, .int x2), (3, .int x3), (4, .int x4), (5, .int x5), (6, .int x6), (7, .int x7)] [] σ) (x1 : Int32) (x2 : Int32) (x3 : Int32) (x4 : Int32) (x5 : Int32) (x6 : Int32) (x7 : Int32) (s0 : Int32) (s1 : Int32) (s2 : Int32) (q3 : Nat) (σ : z_S) (hf : w_X1_spread_56 k23 Q x1 x2 x3 x4 x5 x6 x7 s0 s1 s2 q3 σ) : z_t D cI cJ cM cS n0 p l e rm_X1_spread s m args below meth c 8 (MQ below (va_Qv Q (fun u t => z_Bq D cI cJ cM cS n0 u t) (z_Ab n0)) args s 0 0 (z_Ab n0)) 0 0 56 [(0, .ref (n0 + 29)), (1, .int x1), (2, .int x2), (3, .int x3), (4, .int x4), (5, .int x5), (6, .int x6), (7, .int x7)] [.int s0, .int s1, .int s2, .ref (n0 + q3)] σ := by
  unfold w_X1_spread_56 at hf
  refine zt_iadd hX dX1_spread_56 ?_
  obtain ⟨h10, hf⟩ := hf
  obtain ⟨h9, hf⟩ := hf
  refine zt_iastore hX dX1_spread_57 h10.1 h10.2 h9 ?_
  refine zt_nms (fun σ11 d11 => ?_)
  replace hf := hf σ11 d11
  refine zt_aload_n hX 0 dX1_spread_58 rfl rfl ?_
  refine zt_get_X1 hX (by decide) (zE_29 _ _) 1 (by decide) kw_169 rfl rfl dX1_spread_59 ?_
  refine zt_iload_n hX 1 dX1_spread_62 rfl rfl ?_
  obtain ⟨h12, hf⟩ := hf
  refine zt_aaloadM hX dX1_spread_63 (by decide) rfl (k1 := 42) rfl h12 ?_
  refine zt_iload hX 7 dX1_spread_64 rfl ?_
  refine zt_iconst hX dX1_spread_66 (v := (1 : Int32)) (by decide) ?_
  obtain ⟨h13, hf⟩ := hf
  refine zt_iastore hX dX1_spread_67 (z_row42 (z_lt h12)) (z_sh42 (z_lt h12)) h13 ?_
  refine zt_nms (fun σ14 d14 => ?_)
  replace hf := hf σ14 d14
  obtain ⟨y15, e15⟩ : ∃ y : Int32, y = (x7 + (1 : Int32)) := ⟨_, rfl⟩
  replace hf := hf y15 e15
  refine zt_iinc (L' := [(7, .int y15), (0, .ref (n0 + 29)), (1, .int x1), (2, .int x2), (3, .int x3), (4, .int x4), (5, .int x5), (6, .int x6)]) hX 7 dX1_spread_68 rfl (v := y15) (by rw [e15]; rfl) (by decide) rfl ?_
  refine zt_goto hX dX1_spread_71 (tgt := 23) (by decide) ?_
  exact zt_sub [1, 2, 3, 4, 5, 6, 7, 0] rfl (hk23 _ _ _ _ _ _ _ _ hf)
set_option maxHeartbeats 4000000 in
set_option maxRecDepth 100000 in
theorem t_X1_spread_23 {l : Launch} {D : va_G} {cI cJ cM cS : ClassId} {n0 : Nat} {p : Program} {e : Env} {s : State} {m : MethodId} {args : Array Value} {below : List Frame} {meth : Method} {c : Code}  {Q : z_S → Prop} (hX : z_X D cI cJ cM cS p s m args c cX1_spread 8 yX1_spread.cls) (hY : z_Y s meth none)  : ∀ (n : Nat) (x1 : Int32) (x2 : Int32) (x3 : Int32) (x4 : Int32) (x5 : Int32) (x6 : Int32) (x7 : Int32) (σ : z_S), w_X1_spread_23  Q n x1 x2 x3 x4 x5 x6 x7 σ → z_t D cI cJ cM cS n0 p l e rm_X1_spread s m args below meth c 8 (MQ below (va_Qv Q (fun u t => z_Bq D cI cJ cM cS n0 u t) (z_Ab n0)) args s 0 0 (z_Ab n0)) 0 0 23 [(0, .ref (n0 + 29)), (1, .int x1), (2, .int x2), (3, .int x3), (4, .int x4), (5, .int x5), (6, .int x6), (7, .int x7)] [] σ := by
  intro n
  induction n with
  | zero => intro _ _ _ _ _ _ _ _ hf; exact hf.elim
  | succ n ih23 =>
    intro x1 x2 x3 x4 x5 x6 x7 σ hf
    have hf : wb_X1_spread_23  Q (w_X1_spread_23  Q n) x1 x2 x3 x4 x5 x6 x7 σ := hf
    unfold wb_X1_spread_23 at hf
    refine zt_iload hX 7 dX1_spread_23 rfl ?_
    refine zt_iload_n hX 3 dX1_spread_25 rfl rfl ?_
    refine zt_icmp_gt hX dX1_spread_26 (tgt := 74) (by decide) (fun c5 => ?_) (fun c5 => ?_)
    · replace hf := z_pos hf c5
      exact zt_vret hX hY dX1_spread_74 hf
    · replace hf := z_neg hf c5
      refine zt_aload_n hX 0 dX1_spread_29 rfl rfl ?_
      refine zt_get_X1 hX (by decide) (zE_29 _ _) 0 (by decide) kw_166 rfl rfl dX1_spread_30 ?_
      refine zt_iload_n hX 1 dX1_spread_33 rfl rfl ?_
      obtain ⟨h6, hf⟩ := hf
      refine zt_aaloadM hX dX1_spread_34 (by decide) rfl (k1 := 31) rfl h6 ?_
      refine zt_iload hX 7 dX1_spread_35 rfl ?_
      refine zt_iload hX 4 dX1_spread_37 rfl ?_
      refine zt_iload hX 5 dX1_spread_39 rfl ?_
      obtain ⟨h7, hf⟩ := hf
      refine zt_idiv hX dX1_spread_41 h7 ?_
      refine zt_iload hX 7 dX1_spread_42 rfl ?_
      refine zt_iload_n hX 2 dX1_spread_44 rfl rfl ?_
      refine zt_isub hX dX1_spread_45 ?_
      refine zt_iload hX 6 dX1_spread_46 rfl ?_
      refine zt_icmp_ge hX dX1_spread_48 (tgt := 55) (by decide) (fun c8 => ?_) (fun c8 => ?_)
      · replace hf := z_pos hf c8
        refine zt_iconst hX dX1_spread_55 (v := (0 : Int32)) (by decide) ?_
        exact zt_sub [0, 1, 2, 3, 4, 5, 6, 7] rfl (t_X1_spread_56 hX hY ih23 _ _ _ _ _ _ _ _ _ _ _ _ hf)
      · replace hf := z_neg hf c8
        refine zt_iconst hX dX1_spread_51 (v := (1 : Int32)) (by decide) ?_
        refine zt_goto hX dX1_spread_52 (tgt := 56) (by decide) ?_
        exact zt_sub [0, 1, 2, 3, 4, 5, 6, 7] rfl (t_X1_spread_56 hX hY ih23 _ _ _ _ _ _ _ _ _ _ _ _ hf)
set_option maxHeartbeats 4000000 in
set_option maxRecDepth 100000 in
theorem c_X1_spread {l : Launch} {D : va_G} {cI cJ cM cS : ClassId} {n0 : Nat} {a1 : Int32} {a2 : Int32} {a3 : Int32} {a4 : Int32} {σ : z_S} {Q : z_S → Prop} (hf : w_X1_spread a1 a2 a3 a4 σ Q) : z_cv l D cI cJ cM cS n0 yX1_spread cX1_spread 8 rm_X1_spread 0 0 [.ref (n0 + 29), .int a1, .int a2, .int a3, .int a4] σ Q := by
  refine z_ofv (by decide +kernel) (Nat.le_of_ble_eq_true rfl) (fun p e s m args below meth c hX hY => ?_)
  unfold w_X1_spread at hf
  refine zt_L (L' := [(0, .ref (n0 + 29)), (1, .int a1), (2, .int a2), (3, .int a3), (4, .int a4)]) rfl ?_
  refine zt_iload_n hX 3 dX1_spread_0 rfl rfl ?_
  refine zt_iload_n hX 2 dX1_spread_1 rfl rfl ?_
  refine zt_isub hX dX1_spread_2 ?_
  refine zt_iconst hX dX1_spread_3 (v := (1 : Int32)) (by decide) ?_
  refine zt_iadd hX dX1_spread_4 ?_
  refine zt_nmi (fun y1 e1 => ?_)
  replace hf := hf y1 e1
  refine zt_istore (L' := [(5, .int y1), (0, .ref (n0 + 29)), (1, .int a1), (2, .int a2), (3, .int a3), (4, .int a4)]) hX dX1_spread_5 (by decide) rfl ?_
  refine zt_iload hX 0 dX1_spread_7 rfl ?_
  refine zt_if_gt hX dX1_spread_9 (tgt := 13) (by decide) (fun c2 => ?_) (fun c2 => ?_)
  · replace hf := z_pos hf c2
    refine zt_iload hX 5 dX1_spread_13 rfl ?_
    refine zt_iload hX 0 dX1_spread_15 rfl ?_
    obtain ⟨h3, hf⟩ := hf
    refine zt_irem hX dX1_spread_17 h3 ?_
    refine zt_nmi (fun y4 e4 => ?_)
    replace hf := hf y4 e4
    refine zt_istore (L' := [(6, .int y4), (5, .int y1), (0, .ref (n0 + 29)), (1, .int a1), (2, .int a2), (3, .int a3), (4, .int a4)]) hX dX1_spread_18 (by decide) rfl ?_
    refine zt_iload_n hX 4 dX1_spread_20 rfl rfl ?_
    refine zt_istore (L' := [(7, .int a2), (6, .int y4), (5, .int y1), (0, .ref (n0 + 29)), (1, .int a1), (2, .int a2), (3, .int a3), (4, .int a4)]) hX dX1_spread_21 (by decide) rfl ?_
    exact zt_sub [3, 4, 5, 6, 7, 2, 1, 0] rfl (t_X1_spread_23 hX hY 400 _ _ _ _ _ _ _ _ hf)
  · replace hf := z_neg hf c2
    exact zt_vret hX hY dX1_spread_12 hf
