theorem dX6_clearRevisions_0 : decode cX6_clearRevisions 0 = .ok (.aload_n 0, 1) := by decide +kernel
theorem dX6_clearRevisions_1 : decode cX6_clearRevisions 1 = .ok (.invokevirtual 59, 3) := by decide +kernel
theorem dX6_clearRevisions_4 : decode cX6_clearRevisions 4 = .ok (.aload_n 0, 1) := by decide +kernel
theorem dX6_clearRevisions_5 : decode cX6_clearRevisions 5 = .ok (.getfield 7, 3) := by decide +kernel
theorem dX6_clearRevisions_8 : decode cX6_clearRevisions 8 = .ok (.iconst 3, 1) := by decide +kernel
theorem dX6_clearRevisions_9 : decode cX6_clearRevisions 9 = .ok (.iaload, 1) := by decide +kernel
theorem dX6_clearRevisions_10 : decode cX6_clearRevisions 10 = .ok (.istore_n 1, 1) := by decide +kernel
theorem dX6_clearRevisions_11 : decode cX6_clearRevisions 11 = .ok (.aload_n 0, 1) := by decide +kernel
theorem dX6_clearRevisions_12 : decode cX6_clearRevisions 12 = .ok (.getfield 7, 3) := by decide +kernel
theorem dX6_clearRevisions_15 : decode cX6_clearRevisions 15 = .ok (.iconst 3, 1) := by decide +kernel
theorem dX6_clearRevisions_16 : decode cX6_clearRevisions 16 = .ok (.iconst 0, 1) := by decide +kernel
theorem dX6_clearRevisions_17 : decode cX6_clearRevisions 17 = .ok (.iastore, 1) := by decide +kernel
theorem dX6_clearRevisions_18 : decode cX6_clearRevisions 18 = .ok (.iload_n 1, 1) := by decide +kernel
theorem dX6_clearRevisions_19 : decode cX6_clearRevisions 19 = .ok (.ireturn, 1) := by decide +kernel
abbrev rm_X6_clearRevisions : Room := { frames := 2, cells := 0, slots := 0, locals := 44 }
theorem hy_X6_clearRevisions : yX6_clearRevisions.cls ≠ "java/lang/invoke/MethodHandle" ∧ yX6_clearRevisions.cls ≠ "java/lang/invoke/VarHandle" ∧ (parseMethodDescriptor yX6_clearRevisions.desc).map (fun d => d.parameters.length) = some 0 := by decide +kernel
def w_X6_clearRevisions  (σ : z_S) (Q : Int32 → z_S → Prop) : Prop :=
  w_X6_saves σ (fun σ2 => vp_in (3 : Int32) 1584 ∧ ∀ y4 : Int32, y4 = (zg_i σ2 74 (3 : Int32).toNatClampNeg) → vp_in (3 : Int32) 1584 ∧ ∀ σ6 : z_S, σ6 = zs_i σ2 74 (3 : Int32).toNatClampNeg (0 : Int32) → Q y4 σ6)
set_option maxHeartbeats 4000000 in
set_option maxRecDepth 100000 in
theorem c_X6_clearRevisions {l : Launch} {D : va_G} {cI cJ cM cS : ClassId} {n0 : Nat}  {σ : z_S} {Q : Int32 → z_S → Prop} (hf : w_X6_clearRevisions  σ Q) : z_ci l D cI cJ cM cS n0 yX6_clearRevisions cX6_clearRevisions 2 .int rm_X6_clearRevisions 0 0 [.ref (n0 + 73)] σ Q := by
  refine z_ofi (by decide +kernel) (Nat.le_of_ble_eq_true rfl) (fun p e s m args below meth c hX hY => ?_)
  unfold w_X6_clearRevisions at hf
  refine zt_L (L' := [(0, .ref (n0 + 73))]) rfl ?_
  refine zt_aload_n hX 0 dX6_clearRevisions_0 rfl rfl ?_
  refine zt_callvV hX hY (av := []) (c_X6_saves hf) dX6_clearRevisions_1 rfl kw_707 kw_709 kw_21 kw_67 kw_710 ⟨rfl, rfl⟩ hy_X6_saves ⟨by decide, by decide⟩ ⟨by decide, by decide⟩ (Nat.le_of_ble_eq_true rfl) (by decide) (zE_73 _ _) rfl rfl (fun σ2 hf => ?_)
  refine zt_aload_n hX 0 dX6_clearRevisions_4 rfl rfl ?_
  refine zt_get_X6 hX (by decide) (zE_73 _ _) 0 (by decide) kw_654 rfl rfl dX6_clearRevisions_5 ?_
  refine zt_iconst hX dX6_clearRevisions_8 (v := (3 : Int32)) (by decide) ?_
  obtain ⟨h3, hf⟩ := hf
  refine zt_iaload hX dX6_clearRevisions_9 (by decide) rfl h3 ?_
  refine zt_nmi (fun y4 e4 => ?_)
  replace hf := hf y4 e4
  refine zt_istore_n (L' := [(1, .int y4), (0, .ref (n0 + 73))]) hX dX6_clearRevisions_10 rfl (by decide) rfl ?_
  refine zt_aload_n hX 1 dX6_clearRevisions_11 rfl rfl ?_
  refine zt_get_X6 hX (by decide) (zE_73 _ _) 0 (by decide) kw_654 rfl rfl dX6_clearRevisions_12 ?_
  refine zt_iconst hX dX6_clearRevisions_15 (v := (3 : Int32)) (by decide) ?_
  refine zt_iconst hX dX6_clearRevisions_16 (v := (0 : Int32)) (by decide) ?_
  obtain ⟨h5, hf⟩ := hf
  refine zt_iastore hX dX6_clearRevisions_17 (by decide) rfl h5 ?_
  refine zt_nms (fun σ6 d6 => ?_)
  replace hf := hf σ6 d6
  refine zt_iload_n hX 0 dX6_clearRevisions_18 rfl rfl ?_
  exact zt_iret hX hY dX6_clearRevisions_19 hf

theorem dX6_undo_0 : decode cX6_undo 0 = .ok (.aload_n 0, 1) := by decide +kernel
theorem dX6_undo_1 : decode cX6_undo 1 = .ok (.getfield 32, 3) := by decide +kernel
theorem dX6_undo_4 : decode cX6_undo 4 = .ok (.ifCond .ne 6, 3) := by decide +kernel
theorem dX6_undo_7 : decode cX6_undo 7 = .ok (.ldc 164, 2) := by decide +kernel
theorem dX6_undo_9 : decode cX6_undo 9 = .ok (.ireturn, 1) := by decide +kernel
theorem dX6_undo_10 : decode cX6_undo 10 = .ok (.aload_n 0, 1) := by decide +kernel
theorem dX6_undo_11 : decode cX6_undo 11 = .ok (.aload_n 0, 1) := by decide +kernel
theorem dX6_undo_12 : decode cX6_undo 12 = .ok (.getfield 32, 3) := by decide +kernel
theorem dX6_undo_15 : decode cX6_undo 15 = .ok (.iconst 0, 1) := by decide +kernel
theorem dX6_undo_16 : decode cX6_undo 16 = .ok (.invokevirtual 36, 3) := by decide +kernel
theorem dX6_undo_19 : decode cX6_undo 19 = .ok (.aload_n 0, 1) := by decide +kernel
theorem dX6_undo_20 : decode cX6_undo 20 = .ok (.dup, 1) := by decide +kernel
theorem dX6_undo_21 : decode cX6_undo 21 = .ok (.getfield 32, 3) := by decide +kernel
theorem dX6_undo_24 : decode cX6_undo 24 = .ok (.iconst 1, 1) := by decide +kernel
theorem dX6_undo_25 : decode cX6_undo 25 = .ok (.isub, 1) := by decide +kernel
theorem dX6_undo_26 : decode cX6_undo 26 = .ok (.putfield 32, 3) := by decide +kernel
theorem dX6_undo_29 : decode cX6_undo 29 = .ok (.aload_n 0, 1) := by decide +kernel
theorem dX6_undo_30 : decode cX6_undo 30 = .ok (.getfield 32, 3) := by decide +kernel
theorem dX6_undo_33 : decode cX6_undo 33 = .ok (.ireturn, 1) := by decide +kernel
abbrev rm_X6_undo : Room := { frames := 1, cells := 0, slots := 0, locals := 23 }
theorem hy_X6_undo : yX6_undo.cls ≠ "java/lang/invoke/MethodHandle" ∧ yX6_undo.cls ≠ "java/lang/invoke/VarHandle" ∧ (parseMethodDescriptor yX6_undo.desc).map (fun d => d.parameters.length) = some 0 := by decide +kernel
def w_X6_undo  (σ : z_S) (Q : Int32 → z_S → Prop) : Prop :=
  if (zg_i σ 73 1) = 0 then (Q (-2000000003 : Int32) σ) else (w_X6_copies (zg_i σ 73 1) (0 : Int32) σ (fun σ3 => ∀ σ4 : z_S, σ4 = zs_i σ3 73 1 ((zg_i σ3 73 1) - (1 : Int32)) → Q (zg_i σ4 73 1) σ4))
set_option maxHeartbeats 4000000 in
set_option maxRecDepth 100000 in
theorem c_X6_undo {l : Launch} {D : va_G} {cI cJ cM cS : ClassId} {n0 : Nat}  {σ : z_S} {Q : Int32 → z_S → Prop} (hf : w_X6_undo  σ Q) : z_ci l D cI cJ cM cS n0 yX6_undo cX6_undo 1 .int rm_X6_undo 0 0 [.ref (n0 + 73)] σ Q := by
  refine z_ofi (by decide +kernel) (Nat.le_of_ble_eq_true rfl) (fun p e s m args below meth c hX hY => ?_)
  unfold w_X6_undo at hf
  refine zt_L (L' := [(0, .ref (n0 + 73))]) rfl ?_
  refine zt_aload_n hX 0 dX6_undo_0 rfl rfl ?_
  refine zt_get_X6 hX (by decide) (zE_73 _ _) 1 (by decide) kw_655 rfl rfl dX6_undo_1 ?_
  refine zt_if_ne hX dX6_undo_4 (tgt := 10) (by decide) (fun c1 => ?_) (fun c1 => ?_)
  · replace hf := z_neg hf c1
    refine zt_aload_n hX 0 dX6_undo_10 rfl rfl ?_
    refine zt_aload_n hX 0 dX6_undo_11 rfl rfl ?_
    refine zt_get_X6 hX (by decide) (zE_73 _ _) 1 (by decide) kw_655 rfl rfl dX6_undo_12 ?_
    refine zt_iconst hX dX6_undo_15 (v := (0 : Int32)) (by decide) ?_
    refine zt_callvV hX hY (av := [.int (zg_i σ 73 1), .int (0 : Int32)]) (c_X6_copies hf) dX6_undo_16 rfl kw_711 kw_713 kw_22 kw_67 kw_714 ⟨rfl, rfl⟩ hy_X6_copies ⟨by decide, by decide⟩ ⟨by decide, by decide⟩ (Nat.le_of_ble_eq_true rfl) (by decide) (zE_73 _ _) rfl rfl (fun σ3 hf => ?_)
    refine zt_aload_n hX 0 dX6_undo_19 rfl rfl ?_
    refine zt_dup hX dX6_undo_20 rfl ?_
    refine zt_get_X6 hX (by decide) (zE_73 _ _) 1 (by decide) kw_655 rfl rfl dX6_undo_21 ?_
    refine zt_iconst hX dX6_undo_24 (v := (1 : Int32)) (by decide) ?_
    refine zt_isub hX dX6_undo_25 ?_
    refine zt_puti_X6 hX (by decide) (zE_73 _ _) 1 (by decide) kw_655 rfl rfl (Nat.le_of_ble_eq_true rfl) rfl rfl dX6_undo_26 ?_
    refine zt_nms (fun σ4 d4 => ?_)
    replace hf := hf σ4 d4
    refine zt_aload_n hX 0 dX6_undo_29 rfl rfl ?_
    refine zt_get_X6 hX (by decide) (zE_73 _ _) 1 (by decide) kw_655 rfl rfl dX6_undo_30 ?_
    exact zt_iret hX hY dX6_undo_33 hf
  · replace hf := z_pos hf c1
    refine zt_ldc hX dX6_undo_7 kw_954 ?_
    exact zt_iret hX hY dX6_undo_9 hf

theorem dX6_type_0 : decode cX6_type 0 = .ok (.iload_n 1, 1) := by decide +kernel
theorem dX6_type_1 : decode cX6_type 1 = .ok (.iconst 0, 1) := by decide +kernel
theorem dX6_type_2 : decode cX6_type 2 = .ok (.sipush 255, 3) := by decide +kernel
theorem dX6_type_5 : decode cX6_type 5 = .ok (.invokestatic 40, 3) := by decide +kernel
theorem dX6_type_8 : decode cX6_type 8 = .ok (.ifCond .ne 6, 3) := by decide +kernel
theorem dX6_type_11 : decode cX6_type 11 = .ok (.ldc 66, 2) := by decide +kernel
theorem dX6_type_13 : decode cX6_type 13 = .ok (.ireturn, 1) := by decide +kernel
theorem dX6_type_14 : decode cX6_type 14 = .ok (.aload_n 0, 1) := by decide +kernel
theorem dX6_type_15 : decode cX6_type 15 = .ok (.getfield 171, 3) := by decide +kernel
theorem dX6_type_18 : decode cX6_type 18 = .ok (.bipush 120, 2) := by decide +kernel
theorem dX6_type_20 : decode cX6_type 20 = .ok (.if_icmp .ne 6, 3) := by decide +kernel
theorem dX6_type_23 : decode cX6_type 23 = .ok (.ldc 58, 2) := by decide +kernel
theorem dX6_type_25 : decode cX6_type 25 = .ok (.ireturn, 1) := by decide +kernel
theorem dX6_type_26 : decode cX6_type 26 = .ok (.aload_n 0, 1) := by decide +kernel
theorem dX6_type_27 : decode cX6_type 27 = .ok (.getfield 29, 3) := by decide +kernel
theorem dX6_type_30 : decode cX6_type 30 = .ok (.aload_n 0, 1) := by decide +kernel
theorem dX6_type_31 : decode cX6_type 31 = .ok (.getfield 171, 3) := by decide +kernel
theorem dX6_type_34 : decode cX6_type 34 = .ok (.iload_n 1, 1) := by decide +kernel
theorem dX6_type_35 : decode cX6_type 35 = .ok (.iastore, 1) := by decide +kernel
theorem dX6_type_36 : decode cX6_type 36 = .ok (.aload_n 0, 1) := by decide +kernel
theorem dX6_type_37 : decode cX6_type 37 = .ok (.dup, 1) := by decide +kernel
theorem dX6_type_38 : decode cX6_type 38 = .ok (.getfield 171, 3) := by decide +kernel
theorem dX6_type_41 : decode cX6_type 41 = .ok (.iconst 1, 1) := by decide +kernel
theorem dX6_type_42 : decode cX6_type 42 = .ok (.iadd, 1) := by decide +kernel
theorem dX6_type_43 : decode cX6_type 43 = .ok (.putfield 171, 3) := by decide +kernel
theorem dX6_type_46 : decode cX6_type 46 = .ok (.aload_n 0, 1) := by decide +kernel
theorem dX6_type_47 : decode cX6_type 47 = .ok (.getfield 171, 3) := by decide +kernel
theorem dX6_type_50 : decode cX6_type 50 = .ok (.ireturn, 1) := by decide +kernel
abbrev rm_X6_type : Room := { frames := 1, cells := 0, slots := 0, locals := 22 }
theorem hy_X6_type : yX6_type.cls ≠ "java/lang/invoke/MethodHandle" ∧ yX6_type.cls ≠ "java/lang/invoke/VarHandle" ∧ (parseMethodDescriptor yX6_type.desc).map (fun d => d.parameters.length) = some 1 := by decide +kernel
def w_X6_type (a1 : Int32) (σ : z_S) (Q : Int32 → z_S → Prop) : Prop :=
  w_X6_in a1 (0 : Int32) (255 : Int32) σ (fun r1 σ2 => if r1 = 0 then (Q (-2000000002 : Int32) σ2) else (if (zg_i σ2 73 8) = (120 : Int32) then (Q (-2000000004 : Int32) σ2) else (vp_in (zg_i σ2 73 8) 120 ∧ ∀ σ6 : z_S, σ6 = zs_i σ2 80 (zg_i σ2 73 8).toNatClampNeg a1 → ∀ σ7 : z_S, σ7 = zs_i σ6 73 8 ((zg_i σ6 73 8) + (1 : Int32)) → Q (zg_i σ7 73 8) σ7)))
set_option maxHeartbeats 4000000 in
set_option maxRecDepth 100000 in
theorem c_X6_type {l : Launch} {D : va_G} {cI cJ cM cS : ClassId} {n0 : Nat} {a1 : Int32} {σ : z_S} {Q : Int32 → z_S → Prop} (hf : w_X6_type a1 σ Q) : z_ci l D cI cJ cM cS n0 yX6_type cX6_type 2 .int rm_X6_type 0 0 [.ref (n0 + 73), .int a1] σ Q := by
  refine z_ofi (by decide +kernel) (Nat.le_of_ble_eq_true rfl) (fun p e s m args below meth c hX hY => ?_)
  unfold w_X6_type at hf
  refine zt_L (L' := [(0, .ref (n0 + 73)), (1, .int a1)]) rfl ?_
  refine zt_iload_n hX 1 dX6_type_0 rfl rfl ?_
  refine zt_iconst hX dX6_type_1 (v := (0 : Int32)) (by decide) ?_
  refine zt_sipush hX dX6_type_2 (v := (255 : Int32)) (by decide) ?_
  refine zt_calliS hX hY (av := [.int a1, .int (0 : Int32), .int (255 : Int32)]) (c_X6_in hf) dX6_type_5 rfl kw_702 kw_703 kw_67 kw_704 ⟨rfl, rfl⟩ hy_X6_in ⟨by decide, by decide⟩ ⟨by decide, by decide⟩ (Nat.le_of_ble_eq_true rfl) (fun r1 σ2 hf => ?_)
  refine zt_if_ne hX dX6_type_8 (tgt := 14) (by decide) (fun c3 => ?_) (fun c3 => ?_)
  · replace hf := z_neg hf c3
    refine zt_aload_n hX 0 dX6_type_14 rfl rfl ?_
    refine zt_get_X6 hX (by decide) (zE_73 _ _) 8 (by decide) kw_662 rfl rfl dX6_type_15 ?_
    refine zt_bipush hX dX6_type_18 (v := (120 : Int32)) (by decide) ?_
    refine zt_icmp_ne hX dX6_type_20 (tgt := 26) (by decide) (fun c4 => ?_) (fun c4 => ?_)
    · replace hf := z_neg hf c4
      refine zt_aload_n hX 0 dX6_type_26 rfl rfl ?_
      refine zt_get_X6 hX (by decide) (zE_73 _ _) 7 (by decide) kw_661 rfl rfl dX6_type_27 ?_
      refine zt_aload_n hX 0 dX6_type_30 rfl rfl ?_
      refine zt_get_X6 hX (by decide) (zE_73 _ _) 8 (by decide) kw_662 rfl rfl dX6_type_31 ?_
      refine zt_iload_n hX 1 dX6_type_34 rfl rfl ?_
      obtain ⟨h5, hf⟩ := hf
      refine zt_iastore hX dX6_type_35 (by decide) rfl h5 ?_
      refine zt_nms (fun σ6 d6 => ?_)
      replace hf := hf σ6 d6
      refine zt_aload_n hX 0 dX6_type_36 rfl rfl ?_
      refine zt_dup hX dX6_type_37 rfl ?_
      refine zt_get_X6 hX (by decide) (zE_73 _ _) 8 (by decide) kw_662 rfl rfl dX6_type_38 ?_
      refine zt_iconst hX dX6_type_41 (v := (1 : Int32)) (by decide) ?_
      refine zt_iadd hX dX6_type_42 ?_
      refine zt_puti_X6 hX (by decide) (zE_73 _ _) 8 (by decide) kw_662 rfl rfl (Nat.le_of_ble_eq_true rfl) rfl rfl dX6_type_43 ?_
      refine zt_nms (fun σ7 d7 => ?_)
      replace hf := hf σ7 d7
      refine zt_aload_n hX 0 dX6_type_46 rfl rfl ?_
      refine zt_get_X6 hX (by decide) (zE_73 _ _) 8 (by decide) kw_662 rfl rfl dX6_type_47 ?_
      exact zt_iret hX hY dX6_type_50 hf
    · replace hf := z_pos hf c4
      refine zt_ldc hX dX6_type_23 kw_706 ?_
      exact zt_iret hX hY dX6_type_25 hf
  · replace hf := z_pos hf c3
    refine zt_ldc hX dX6_type_11 kw_728 ?_
    exact zt_iret hX hY dX6_type_13 hf

theorem dX6_clearText_0 : decode cX6_clearText 0 = .ok (.aload_n 0, 1) := by decide +kernel
theorem dX6_clearText_1 : decode cX6_clearText 1 = .ok (.getfield 171, 3) := by decide +kernel
theorem dX6_clearText_4 : decode cX6_clearText 4 = .ok (.istore_n 1, 1) := by decide +kernel
theorem dX6_clearText_5 : decode cX6_clearText 5 = .ok (.aload_n 0, 1) := by decide +kernel
theorem dX6_clearText_6 : decode cX6_clearText 6 = .ok (.iconst 0, 1) := by decide +kernel
theorem dX6_clearText_7 : decode cX6_clearText 7 = .ok (.putfield 171, 3) := by decide +kernel
theorem dX6_clearText_10 : decode cX6_clearText 10 = .ok (.iload_n 1, 1) := by decide +kernel
theorem dX6_clearText_11 : decode cX6_clearText 11 = .ok (.ireturn, 1) := by decide +kernel
abbrev rm_X6_clearText : Room := { frames := 0, cells := 0, slots := 0, locals := 0 }
theorem hy_X6_clearText : yX6_clearText.cls ≠ "java/lang/invoke/MethodHandle" ∧ yX6_clearText.cls ≠ "java/lang/invoke/VarHandle" ∧ (parseMethodDescriptor yX6_clearText.desc).map (fun d => d.parameters.length) = some 0 := by decide +kernel
def w_X6_clearText  (σ : z_S) (Q : Int32 → z_S → Prop) : Prop :=
  ∀ y1 : Int32, y1 = (zg_i σ 73 8) → ∀ σ2 : z_S, σ2 = zs_i σ 73 8 (0 : Int32) → Q y1 σ2
set_option maxHeartbeats 4000000 in
set_option maxRecDepth 100000 in
theorem c_X6_clearText {l : Launch} {D : va_G} {cI cJ cM cS : ClassId} {n0 : Nat}  {σ : z_S} {Q : Int32 → z_S → Prop} (hf : w_X6_clearText  σ Q) : z_ci l D cI cJ cM cS n0 yX6_clearText cX6_clearText 2 .int rm_X6_clearText 0 0 [.ref (n0 + 73)] σ Q := by
  refine z_ofi (by decide +kernel) (Nat.le_of_ble_eq_true rfl) (fun p e s m args below meth c hX hY => ?_)
  unfold w_X6_clearText at hf
  refine zt_L (L' := [(0, .ref (n0 + 73))]) rfl ?_
  refine zt_aload_n hX 0 dX6_clearText_0 rfl rfl ?_
  refine zt_get_X6 hX (by decide) (zE_73 _ _) 8 (by decide) kw_662 rfl rfl dX6_clearText_1 ?_
  refine zt_nmi (fun y1 e1 => ?_)
  replace hf := hf y1 e1
  refine zt_istore_n (L' := [(1, .int y1), (0, .ref (n0 + 73))]) hX dX6_clearText_4 rfl (by decide) rfl ?_
  refine zt_aload_n hX 1 dX6_clearText_5 rfl rfl ?_
  refine zt_iconst hX dX6_clearText_6 (v := (0 : Int32)) (by decide) ?_
  refine zt_puti_X6 hX (by decide) (zE_73 _ _) 8 (by decide) kw_662 rfl rfl (Nat.le_of_ble_eq_true rfl) rfl rfl dX6_clearText_7 ?_
  refine zt_nms (fun σ2 d2 => ?_)
  replace hf := hf σ2 d2
  refine zt_iload_n hX 0 dX6_clearText_10 rfl rfl ?_
  exact zt_iret hX hY dX6_clearText_11 hf

theorem dX6_here_0 : decode cX6_here 0 = .ok (.aload_n 0, 1) := by decide +kernel
theorem dX6_here_1 : decode cX6_here 1 = .ok (.getfield 174, 3) := by decide +kernel
theorem dX6_here_4 : decode cX6_here 4 = .ok (.aload_n 0, 1) := by decide +kernel
theorem dX6_here_5 : decode cX6_here 5 = .ok (.getfield 171, 3) := by decide +kernel
theorem dX6_here_8 : decode cX6_here 8 = .ok (.if_icmp .ge 30, 3) := by decide +kernel
theorem dX6_here_11 : decode cX6_here 11 = .ok (.aload_n 0, 1) := by decide +kernel
theorem dX6_here_12 : decode cX6_here 12 = .ok (.getfield 29, 3) := by decide +kernel
theorem dX6_here_15 : decode cX6_here 15 = .ok (.aload_n 0, 1) := by decide +kernel
theorem dX6_here_16 : decode cX6_here 16 = .ok (.getfield 174, 3) := by decide +kernel
theorem dX6_here_19 : decode cX6_here 19 = .ok (.iaload, 1) := by decide +kernel
theorem dX6_here_20 : decode cX6_here 20 = .ok (.bipush 32, 2) := by decide +kernel
theorem dX6_here_22 : decode cX6_here 22 = .ok (.if_icmp .ne 16, 3) := by decide +kernel
theorem dX6_here_25 : decode cX6_here 25 = .ok (.aload_n 0, 1) := by decide +kernel
theorem dX6_here_26 : decode cX6_here 26 = .ok (.dup, 1) := by decide +kernel
theorem dX6_here_27 : decode cX6_here 27 = .ok (.getfield 174, 3) := by decide +kernel
theorem dX6_here_30 : decode cX6_here 30 = .ok (.iconst 1, 1) := by decide +kernel
theorem dX6_here_31 : decode cX6_here 31 = .ok (.iadd, 1) := by decide +kernel
theorem dX6_here_32 : decode cX6_here 32 = .ok (.putfield 174, 3) := by decide +kernel
theorem dX6_here_35 : decode cX6_here 35 = .ok (.goto (-35), 3) := by decide +kernel
theorem dX6_here_38 : decode cX6_here 38 = .ok (.aload_n 0, 1) := by decide +kernel
theorem dX6_here_39 : decode cX6_here 39 = .ok (.getfield 174, 3) := by decide +kernel
theorem dX6_here_42 : decode cX6_here 42 = .ok (.aload_n 0, 1) := by decide +kernel
theorem dX6_here_43 : decode cX6_here 43 = .ok (.getfield 171, 3) := by decide +kernel
theorem dX6_here_46 : decode cX6_here 46 = .ok (.if_icmp .ge 15, 3) := by decide +kernel
theorem dX6_here_49 : decode cX6_here 49 = .ok (.aload_n 0, 1) := by decide +kernel
theorem dX6_here_50 : decode cX6_here 50 = .ok (.getfield 29, 3) := by decide +kernel
theorem dX6_here_53 : decode cX6_here 53 = .ok (.aload_n 0, 1) := by decide +kernel
theorem dX6_here_54 : decode cX6_here 54 = .ok (.getfield 174, 3) := by decide +kernel
theorem dX6_here_57 : decode cX6_here 57 = .ok (.iaload, 1) := by decide +kernel
theorem dX6_here_58 : decode cX6_here 58 = .ok (.goto 4, 3) := by decide +kernel
theorem dX6_here_61 : decode cX6_here 61 = .ok (.iconst (-1), 1) := by decide +kernel
theorem dX6_here_62 : decode cX6_here 62 = .ok (.ireturn, 1) := by decide +kernel
abbrev rm_X6_here : Room := { frames := 0, cells := 0, slots := 0, locals := 0 }
theorem hy_X6_here : yX6_here.cls ≠ "java/lang/invoke/MethodHandle" ∧ yX6_here.cls ≠ "java/lang/invoke/VarHandle" ∧ (parseMethodDescriptor yX6_here.desc).map (fun d => d.parameters.length) = some 0 := by decide +kernel
def w_X6_here_38  (Q : Int32 → z_S → Prop)  (σ : z_S) : Prop :=
  if (zg_i σ 73 8) ≤ (zg_i σ 73 9) then (Q (-1 : Int32) σ) else (vp_in (zg_i σ 73 9) 120 ∧ Q (zg_i σ 80 (zg_i σ 73 9).toNatClampNeg) σ)
def wb_X6_here_0  (Q : Int32 → z_S → Prop) (k0 : z_S → Prop)  (σ : z_S) : Prop :=
  if (zg_i σ 73 8) ≤ (zg_i σ 73 9) then (w_X6_here_38 Q σ) else (vp_in (zg_i σ 73 9) 120 ∧ if (zg_i σ 80 (zg_i σ 73 9).toNatClampNeg) = (32 : Int32) then (∀ σ6 : z_S, σ6 = zs_i σ 73 9 ((zg_i σ 73 9) + (1 : Int32)) → k0 σ6) else (w_X6_here_38 Q σ))
def w_X6_here_0  (Q : Int32 → z_S → Prop) : Nat → z_S → Prop
  | 0 => fun _ => False
  | n + 1 => wb_X6_here_0  Q (w_X6_here_0  Q n)
def w_X6_here  (σ : z_S) (Q : Int32 → z_S → Prop) : Prop :=
  w_X6_here_0 Q 400 σ
set_option maxHeartbeats 4000000 in
set_option maxRecDepth 100000 in
theorem t_X6_here_38 {l : Launch} {D : va_G} {cI cJ cM cS : ClassId} {n0 : Nat} {p : Program} {e : Env} {s : State} {m : MethodId} {args : Array Value} {below : List Frame} {meth : Method} {c : Code}  {Q : Int32 → z_S → Prop} (hX : z_X D cI cJ cM cS p s m args c cX6_here 1 yX6_here.cls) (hY : z_Y s meth (some .int))   (σ : z_S) (hf : w_X6_here_38  Q  σ) : z_t D cI cJ cM cS n0 p l e rm_X6_here s m args below meth c 1 (MQ below (va_Qi Q (fun u t => z_Bq D cI cJ cM cS n0 u t) (z_Ab n0)) args s 0 0 (z_Ab n0)) 0 0 38 [(0, .ref (n0 + 73))] [] σ := by
  unfold w_X6_here_38 at hf
  refine zt_aload_n hX 0 dX6_here_38 rfl rfl ?_
  refine zt_get_X6 hX (by decide) (zE_73 _ _) 9 (by decide) kw_663 rfl rfl dX6_here_39 ?_
  refine zt_aload_n hX 0 dX6_here_42 rfl rfl ?_
  refine zt_get_X6 hX (by decide) (zE_73 _ _) 8 (by decide) kw_662 rfl rfl dX6_here_43 ?_
  refine zt_icmp_ge hX dX6_here_46 (tgt := 61) (by decide) (fun c2 => ?_) (fun c2 => ?_)
  · replace hf := z_pos hf c2
    refine zt_iconst hX dX6_here_61 (v := (-1 : Int32)) (by decide) ?_
    exact zt_iret hX hY dX6_here_62 hf
  · replace hf := z_neg hf c2
    refine zt_aload_n hX 0 dX6_here_49 rfl rfl ?_
    refine zt_get_X6 hX (by decide) (zE_73 _ _) 7 (by decide) kw_661 rfl rfl dX6_here_50 ?_
    refine zt_aload_n hX 0 dX6_here_53 rfl rfl ?_
    refine zt_get_X6 hX (by decide) (zE_73 _ _) 9 (by decide) kw_663 rfl rfl dX6_here_54 ?_
    obtain ⟨h3, hf⟩ := hf
    refine zt_iaload hX dX6_here_57 (by decide) rfl h3 ?_
    refine zt_goto hX dX6_here_58 (tgt := 62) (by decide) ?_
    exact zt_iret hX hY dX6_here_62 hf
set_option maxHeartbeats 4000000 in
set_option maxRecDepth 100000 in
theorem t_X6_here_0 {l : Launch} {D : va_G} {cI cJ cM cS : ClassId} {n0 : Nat} {p : Program} {e : Env} {s : State} {m : MethodId} {args : Array Value} {below : List Frame} {meth : Method} {c : Code}  {Q : Int32 → z_S → Prop} (hX : z_X D cI cJ cM cS p s m args c cX6_here 1 yX6_here.cls) (hY : z_Y s meth (some .int))  : ∀ (n : Nat)  (σ : z_S), w_X6_here_0  Q n  σ → z_t D cI cJ cM cS n0 p l e rm_X6_here s m args below meth c 1 (MQ below (va_Qi Q (fun u t => z_Bq D cI cJ cM cS n0 u t) (z_Ab n0)) args s 0 0 (z_Ab n0)) 0 0 0 [(0, .ref (n0 + 73))] [] σ := by
  intro n
  induction n with
  | zero => intro  _ hf; exact hf.elim
  | succ n ih0 =>
    intro  σ hf
    have hf : wb_X6_here_0  Q (w_X6_here_0  Q n)  σ := hf
    unfold wb_X6_here_0 at hf
    refine zt_aload_n hX 0 dX6_here_0 rfl rfl ?_
    refine zt_get_X6 hX (by decide) (zE_73 _ _) 9 (by decide) kw_663 rfl rfl dX6_here_1 ?_
    refine zt_aload_n hX 0 dX6_here_4 rfl rfl ?_
    refine zt_get_X6 hX (by decide) (zE_73 _ _) 8 (by decide) kw_662 rfl rfl dX6_here_5 ?_
    refine zt_icmp_ge hX dX6_here_8 (tgt := 38) (by decide) (fun c1 => ?_) (fun c1 => ?_)
    · replace hf := z_pos hf c1
      exact zt_sub [0] rfl (t_X6_here_38 hX hY _ hf)
    · replace hf := z_neg hf c1
      refine zt_aload_n hX 0 dX6_here_11 rfl rfl ?_
      refine zt_get_X6 hX (by decide) (zE_73 _ _) 7 (by decide) kw_661 rfl rfl dX6_here_12 ?_
      refine zt_aload_n hX 0 dX6_here_15 rfl rfl ?_
      refine zt_get_X6 hX (by decide) (zE_73 _ _) 9 (by decide) kw_663 rfl rfl dX6_here_16 ?_
      obtain ⟨h4, hf⟩ := hf
      refine zt_iaload hX dX6_here_19 (by decide) rfl h4 ?_
      refine zt_bipush hX dX6_here_20 (v := (32 : Int32)) (by decide) ?_
      refine zt_icmp_ne hX dX6_here_22 (tgt := 38) (by decide) (fun c5 => ?_) (fun c5 => ?_)
      · replace hf := z_neg hf c5
        exact zt_sub [0] rfl (t_X6_here_38 hX hY _ hf)
      · replace hf := z_pos hf c5
        refine zt_aload_n hX 0 dX6_here_25 rfl rfl ?_
        refine zt_dup hX dX6_here_26 rfl ?_
        refine zt_get_X6 hX (by decide) (zE_73 _ _) 9 (by decide) kw_663 rfl rfl dX6_here_27 ?_
        refine zt_iconst hX dX6_here_30 (v := (1 : Int32)) (by decide) ?_
        refine zt_iadd hX dX6_here_31 ?_
        refine zt_puti_X6 hX (by decide) (zE_73 _ _) 9 (by decide) kw_663 rfl rfl (Nat.le_of_ble_eq_true rfl) rfl rfl dX6_here_32 ?_
        refine zt_nms (fun σ6 d6 => ?_)
        replace hf := hf σ6 d6
        refine zt_goto hX dX6_here_35 (tgt := 0) (by decide) ?_
        exact zt_sub [0] rfl (ih0 _ hf)
set_option maxHeartbeats 4000000 in
set_option maxRecDepth 100000 in
theorem c_X6_here {l : Launch} {D : va_G} {cI cJ cM cS : ClassId} {n0 : Nat}  {σ : z_S} {Q : Int32 → z_S → Prop} (hf : w_X6_here  σ Q) : z_ci l D cI cJ cM cS n0 yX6_here cX6_here 1 .int rm_X6_here 0 0 [.ref (n0 + 73)] σ Q := by
  refine z_ofi (by decide +kernel) (Nat.le_of_ble_eq_true rfl) (fun p e s m args below meth c hX hY => ?_)
  unfold w_X6_here at hf
  refine zt_L (L' := [(0, .ref (n0 + 73))]) rfl ?_
  exact zt_sub [0] rfl (t_X6_here_0 hX hY 400 _ hf)

theorem dX6_sign_0 : decode cX6_sign 0 = .ok (.aload_n 0, 1) := by decide +kernel
theorem dX6_sign_1 : decode cX6_sign 1 = .ok (.invokevirtual 177, 3) := by decide +kernel
theorem dX6_sign_4 : decode cX6_sign 4 = .ok (.iload_n 1, 1) := by decide +kernel
theorem dX6_sign_5 : decode cX6_sign 5 = .ok (.if_icmp .ne 7, 3) := by decide +kernel
theorem dX6_sign_8 : decode cX6_sign 8 = .ok (.iconst 1, 1) := by decide +kernel
theorem dX6_sign_9 : decode cX6_sign 9 = .ok (.goto 4, 3) := by decide +kernel
theorem dX6_sign_12 : decode cX6_sign 12 = .ok (.iconst 0, 1) := by decide +kernel
theorem dX6_sign_13 : decode cX6_sign 13 = .ok (.istore_n 2, 1) := by decide +kernel
theorem dX6_sign_14 : decode cX6_sign 14 = .ok (.aload_n 0, 1) := by decide +kernel
theorem dX6_sign_15 : decode cX6_sign 15 = .ok (.dup, 1) := by decide +kernel
theorem dX6_sign_16 : decode cX6_sign 16 = .ok (.getfield 174, 3) := by decide +kernel
theorem dX6_sign_19 : decode cX6_sign 19 = .ok (.iload_n 2, 1) := by decide +kernel
theorem dX6_sign_20 : decode cX6_sign 20 = .ok (.ifCond .eq 7, 3) := by decide +kernel
theorem dX6_sign_23 : decode cX6_sign 23 = .ok (.iconst 1, 1) := by decide +kernel
theorem dX6_sign_24 : decode cX6_sign 24 = .ok (.goto 4, 3) := by decide +kernel
theorem dX6_sign_27 : decode cX6_sign 27 = .ok (.iconst 0, 1) := by decide +kernel
theorem dX6_sign_28 : decode cX6_sign 28 = .ok (.iadd, 1) := by decide +kernel
theorem dX6_sign_29 : decode cX6_sign 29 = .ok (.putfield 174, 3) := by decide +kernel
theorem dX6_sign_32 : decode cX6_sign 32 = .ok (.iload_n 2, 1) := by decide +kernel
theorem dX6_sign_33 : decode cX6_sign 33 = .ok (.ireturn, 1) := by decide +kernel
abbrev rm_X6_sign : Room := { frames := 1, cells := 0, slots := 0, locals := 20 }
theorem hy_X6_sign : yX6_sign.cls ≠ "java/lang/invoke/MethodHandle" ∧ yX6_sign.cls ≠ "java/lang/invoke/VarHandle" ∧ (parseMethodDescriptor yX6_sign.desc).map (fun d => d.parameters.length) = some 1 := by decide +kernel
def w_X6_sign_28  (Q : Int32 → z_S → Prop) (x2 : Int32) (s0 : Int32) (s1 : Int32) (σ : z_S) : Prop :=
  ∀ σ5 : z_S, σ5 = zs_i σ 73 9 (s1 + s0) → (x2 = 0 ∨ x2 = 1) ∧ Q x2 σ5
def w_X6_sign_13  (Q : Int32 → z_S → Prop) (s0 : Int32) (σ : z_S) : Prop :=
  if s0 = 0 then (w_X6_sign_28 Q s0 (0 : Int32) (zg_i σ 73 9) σ) else (w_X6_sign_28 Q s0 (1 : Int32) (zg_i σ 73 9) σ)
def w_X6_sign (a1 : Int32) (σ : z_S) (Q : Int32 → z_S → Prop) : Prop :=
  w_X6_here σ (fun r1 σ2 => if r1 = a1 then (w_X6_sign_13 Q (1 : Int32) σ2) else (w_X6_sign_13 Q (0 : Int32) σ2))
set_option maxHeartbeats 4000000 in
set_option maxRecDepth 100000 in
theorem t_X6_sign_28 {l : Launch} {D : va_G} {cI cJ cM cS : ClassId} {n0 : Nat} {p : Program} {e : Env} {s : State} {m : MethodId} {args : Array Value} {below : List Frame} {meth : Method} {c : Code}  {Q : Int32 → z_S → Prop} (hX : z_X D cI cJ cM cS p s m args c cX6_sign 3 yX6_sign.cls) (hY : z_Y s meth (some .boolean))  (x2 : Int32) (s0 : Int32) (s1 : Int32) (σ : z_S) (hf : w_X6_sign_28  Q x2 s0 s1 σ) : z_t D cI cJ cM cS n0 p l e rm_X6_sign s m args below meth c 3 (MQ below (va_Qi Q (fun u t => z_Bq D cI cJ cM cS n0 u t) (z_Ab n0)) args s 0 0 (z_Ab n0)) 0 0 28 [(2, .int x2)] [.int s0, .int s1, .ref (n0 + 73)] σ := by
  unfold w_X6_sign_28 at hf
  refine zt_iadd hX dX6_sign_28 ?_
  refine zt_puti_X6 hX (by decide) (zE_73 _ _) 9 (by decide) kw_663 rfl rfl (Nat.le_of_ble_eq_true rfl) rfl rfl dX6_sign_29 ?_
  refine zt_nms (fun σ5 d5 => ?_)
  replace hf := hf σ5 d5
  refine zt_iload_n hX 0 dX6_sign_32 rfl rfl ?_
  exact zt_zret hX hY dX6_sign_33 hf
set_option maxHeartbeats 4000000 in
set_option maxRecDepth 100000 in
theorem t_X6_sign_13 {l : Launch} {D : va_G} {cI cJ cM cS : ClassId} {n0 : Nat} {p : Program} {e : Env} {s : State} {m : MethodId} {args : Array Value} {below : List Frame} {meth : Method} {c : Code}  {Q : Int32 → z_S → Prop} (hX : z_X D cI cJ cM cS p s m args c cX6_sign 3 yX6_sign.cls) (hY : z_Y s meth (some .boolean))  (s0 : Int32) (σ : z_S) (hf : w_X6_sign_13  Q s0 σ) : z_t D cI cJ cM cS n0 p l e rm_X6_sign s m args below meth c 3 (MQ below (va_Qi Q (fun u t => z_Bq D cI cJ cM cS n0 u t) (z_Ab n0)) args s 0 0 (z_Ab n0)) 0 0 13 [(0, .ref (n0 + 73))] [.int s0] σ := by
  unfold w_X6_sign_13 at hf
  refine zt_istore_n (L' := [(2, .int s0), (0, .ref (n0 + 73))]) hX dX6_sign_13 rfl (by decide) rfl ?_
  refine zt_aload_n hX 1 dX6_sign_14 rfl rfl ?_
  refine zt_dup hX dX6_sign_15 rfl ?_
  refine zt_get_X6 hX (by decide) (zE_73 _ _) 9 (by decide) kw_663 rfl rfl dX6_sign_16 ?_
  refine zt_iload_n hX 0 dX6_sign_19 rfl rfl ?_
  refine zt_if_eq hX dX6_sign_20 (tgt := 27) (by decide) (fun c4 => ?_) (fun c4 => ?_)
  · replace hf := z_pos hf c4
    refine zt_iconst hX dX6_sign_27 (v := (0 : Int32)) (by decide) ?_
    exact zt_sub [0] rfl (t_X6_sign_28 hX hY _ _ _ _ hf)
  · replace hf := z_neg hf c4
    refine zt_iconst hX dX6_sign_23 (v := (1 : Int32)) (by decide) ?_
    refine zt_goto hX dX6_sign_24 (tgt := 28) (by decide) ?_
    exact zt_sub [0] rfl (t_X6_sign_28 hX hY _ _ _ _ hf)
set_option maxHeartbeats 4000000 in
set_option maxRecDepth 100000 in
theorem c_X6_sign {l : Launch} {D : va_G} {cI cJ cM cS : ClassId} {n0 : Nat} {a1 : Int32} {σ : z_S} {Q : Int32 → z_S → Prop} (hf : w_X6_sign a1 σ Q) : z_ci l D cI cJ cM cS n0 yX6_sign cX6_sign 3 .boolean rm_X6_sign 0 0 [.ref (n0 + 73), .int a1] σ Q := by
  refine z_ofi (by decide +kernel) (Nat.le_of_ble_eq_true rfl) (fun p e s m args below meth c hX hY => ?_)
  unfold w_X6_sign at hf
  refine zt_L (L' := [(0, .ref (n0 + 73)), (1, .int a1)]) rfl ?_
  refine zt_aload_n hX 0 dX6_sign_0 rfl rfl ?_
  refine zt_calliV hX hY (av := []) (c_X6_here hf) dX6_sign_1 rfl kw_1007 kw_1009 kw_57 kw_67 kw_1010 ⟨rfl, rfl⟩ hy_X6_here ⟨by decide, by decide⟩ ⟨by decide, by decide⟩ (Nat.le_of_ble_eq_true rfl) (by decide) (zE_73 _ _) rfl rfl (fun r1 σ2 hf => ?_)
  refine zt_iload_n hX 1 dX6_sign_4 rfl rfl ?_
  refine zt_icmp_ne hX dX6_sign_5 (tgt := 12) (by decide) (fun c3 => ?_) (fun c3 => ?_)
  · replace hf := z_neg hf c3
    refine zt_iconst hX dX6_sign_12 (v := (0 : Int32)) (by decide) ?_
    exact zt_sub [0] rfl (t_X6_sign_13 hX hY _ _ hf)
  · replace hf := z_pos hf c3
    refine zt_iconst hX dX6_sign_8 (v := (1 : Int32)) (by decide) ?_
    refine zt_goto hX dX6_sign_9 (tgt := 13) (by decide) ?_
    exact zt_sub [0] rfl (t_X6_sign_13 hX hY _ _ hf)

theorem dX6_readsNumber_0 : decode cX6_readsNumber 0 = .ok (.aload_n 0, 1) := by decide +kernel
theorem dX6_readsNumber_1 : decode cX6_readsNumber 1 = .ok (.invokevirtual 177, 3) := by decide +kernel
theorem dX6_readsNumber_4 : decode cX6_readsNumber 4 = .ok (.istore_n 2, 1) := by decide +kernel
theorem dX6_readsNumber_5 : decode cX6_readsNumber 5 = .ok (.aload_n 0, 1) := by decide +kernel
theorem dX6_readsNumber_6 : decode cX6_readsNumber 6 = .ok (.getfield 174, 3) := by decide +kernel
theorem dX6_readsNumber_9 : decode cX6_readsNumber 9 = .ok (.istore_n 3, 1) := by decide +kernel
theorem dX6_readsNumber_10 : decode cX6_readsNumber 10 = .ok (.iconst 0, 1) := by decide +kernel
theorem dX6_readsNumber_11 : decode cX6_readsNumber 11 = .ok (.istore 4, 2) := by decide +kernel
theorem dX6_readsNumber_13 : decode cX6_readsNumber 13 = .ok (.iload_n 2, 1) := by decide +kernel
theorem dX6_readsNumber_14 : decode cX6_readsNumber 14 = .ok (.ifCond .lt 66, 3) := by decide +kernel
theorem dX6_readsNumber_17 : decode cX6_readsNumber 17 = .ok (.iload_n 3, 1) := by decide +kernel
theorem dX6_readsNumber_18 : decode cX6_readsNumber 18 = .ok (.aload_n 0, 1) := by decide +kernel
theorem dX6_readsNumber_19 : decode cX6_readsNumber 19 = .ok (.getfield 171, 3) := by decide +kernel
theorem dX6_readsNumber_22 : decode cX6_readsNumber 22 = .ok (.if_icmp .ge 58, 3) := by decide +kernel
theorem dX6_readsNumber_25 : decode cX6_readsNumber 25 = .ok (.aload_n 0, 1) := by decide +kernel
theorem dX6_readsNumber_26 : decode cX6_readsNumber 26 = .ok (.getfield 29, 3) := by decide +kernel
theorem dX6_readsNumber_29 : decode cX6_readsNumber 29 = .ok (.iload_n 3, 1) := by decide +kernel
theorem dX6_readsNumber_30 : decode cX6_readsNumber 30 = .ok (.iaload, 1) := by decide +kernel
theorem dX6_readsNumber_31 : decode cX6_readsNumber 31 = .ok (.bipush 48, 2) := by decide +kernel
theorem dX6_readsNumber_33 : decode cX6_readsNumber 33 = .ok (.bipush 57, 2) := by decide +kernel
theorem dX6_readsNumber_35 : decode cX6_readsNumber 35 = .ok (.invokestatic 40, 3) := by decide +kernel
theorem dX6_readsNumber_38 : decode cX6_readsNumber 38 = .ok (.ifCond .eq 42, 3) := by decide +kernel
theorem dX6_readsNumber_41 : decode cX6_readsNumber 41 = .ok (.iload_n 3, 1) := by decide +kernel
theorem dX6_readsNumber_42 : decode cX6_readsNumber 42 = .ok (.aload_n 0, 1) := by decide +kernel
theorem dX6_readsNumber_43 : decode cX6_readsNumber 43 = .ok (.getfield 174, 3) := by decide +kernel
theorem dX6_readsNumber_46 : decode cX6_readsNumber 46 = .ok (.isub, 1) := by decide +kernel
theorem dX6_readsNumber_47 : decode cX6_readsNumber 47 = .ok (.bipush 7, 2) := by decide +kernel
theorem dX6_readsNumber_49 : decode cX6_readsNumber 49 = .ok (.if_icmp .ge 21, 3) := by decide +kernel
theorem dX6_readsNumber_52 : decode cX6_readsNumber 52 = .ok (.bipush 10, 2) := by decide +kernel
theorem dX6_readsNumber_54 : decode cX6_readsNumber 54 = .ok (.iload 4, 2) := by decide +kernel
theorem dX6_readsNumber_56 : decode cX6_readsNumber 56 = .ok (.imul, 1) := by decide +kernel
theorem dX6_readsNumber_57 : decode cX6_readsNumber 57 = .ok (.aload_n 0, 1) := by decide +kernel
theorem dX6_readsNumber_58 : decode cX6_readsNumber 58 = .ok (.getfield 29, 3) := by decide +kernel
theorem dX6_readsNumber_61 : decode cX6_readsNumber 61 = .ok (.iload_n 3, 1) := by decide +kernel
theorem dX6_readsNumber_62 : decode cX6_readsNumber 62 = .ok (.iaload, 1) := by decide +kernel
theorem dX6_readsNumber_63 : decode cX6_readsNumber 63 = .ok (.iadd, 1) := by decide +kernel
theorem dX6_readsNumber_64 : decode cX6_readsNumber 64 = .ok (.bipush 48, 2) := by decide +kernel
theorem dX6_readsNumber_66 : decode cX6_readsNumber 66 = .ok (.isub, 1) := by decide +kernel
theorem dX6_readsNumber_67 : decode cX6_readsNumber 67 = .ok (.goto 5, 3) := by decide +kernel
theorem dX6_readsNumber_70 : decode cX6_readsNumber 70 = .ok (.iload 4, 2) := by decide +kernel
theorem dX6_readsNumber_72 : decode cX6_readsNumber 72 = .ok (.istore 4, 2) := by decide +kernel
theorem dX6_readsNumber_74 : decode cX6_readsNumber 74 = .ok (.iinc 3 1, 3) := by decide +kernel
theorem dX6_readsNumber_77 : decode cX6_readsNumber 77 = .ok (.goto (-64), 3) := by decide +kernel
theorem dX6_readsNumber_80 : decode cX6_readsNumber 80 = .ok (.iload_n 3, 1) := by decide +kernel
theorem dX6_readsNumber_81 : decode cX6_readsNumber 81 = .ok (.aload_n 0, 1) := by decide +kernel
theorem dX6_readsNumber_82 : decode cX6_readsNumber 82 = .ok (.getfield 174, 3) := by decide +kernel
theorem dX6_readsNumber_85 : decode cX6_readsNumber 85 = .ok (.if_icmp .eq 20, 3) := by decide +kernel
theorem dX6_readsNumber_88 : decode cX6_readsNumber 88 = .ok (.iload_n 3, 1) := by decide +kernel
theorem dX6_readsNumber_89 : decode cX6_readsNumber 89 = .ok (.aload_n 0, 1) := by decide +kernel
theorem dX6_readsNumber_90 : decode cX6_readsNumber 90 = .ok (.getfield 174, 3) := by decide +kernel
theorem dX6_readsNumber_93 : decode cX6_readsNumber 93 = .ok (.isub, 1) := by decide +kernel
theorem dX6_readsNumber_94 : decode cX6_readsNumber 94 = .ok (.bipush 6, 2) := by decide +kernel
theorem dX6_readsNumber_96 : decode cX6_readsNumber 96 = .ok (.if_icmp .gt 9, 3) := by decide +kernel
theorem dX6_readsNumber_99 : decode cX6_readsNumber 99 = .ok (.iload 4, 2) := by decide +kernel
theorem dX6_readsNumber_101 : decode cX6_readsNumber 101 = .ok (.iload_n 1, 1) := by decide +kernel
theorem dX6_readsNumber_102 : decode cX6_readsNumber 102 = .ok (.if_icmp .le 5, 3) := by decide +kernel
theorem dX6_readsNumber_105 : decode cX6_readsNumber 105 = .ok (.iconst 0, 1) := by decide +kernel
theorem dX6_readsNumber_106 : decode cX6_readsNumber 106 = .ok (.ireturn, 1) := by decide +kernel
theorem dX6_readsNumber_107 : decode cX6_readsNumber 107 = .ok (.aload_n 0, 1) := by decide +kernel
theorem dX6_readsNumber_108 : decode cX6_readsNumber 108 = .ok (.iload_n 3, 1) := by decide +kernel
theorem dX6_readsNumber_109 : decode cX6_readsNumber 109 = .ok (.putfield 174, 3) := by decide +kernel
theorem dX6_readsNumber_112 : decode cX6_readsNumber 112 = .ok (.aload_n 0, 1) := by decide +kernel
theorem dX6_readsNumber_113 : decode cX6_readsNumber 113 = .ok (.iload 4, 2) := by decide +kernel
theorem dX6_readsNumber_115 : decode cX6_readsNumber 115 = .ok (.putfield 181, 3) := by decide +kernel
theorem dX6_readsNumber_118 : decode cX6_readsNumber 118 = .ok (.iconst 1, 1) := by decide +kernel
theorem dX6_readsNumber_119 : decode cX6_readsNumber 119 = .ok (.ireturn, 1) := by decide +kernel
abbrev rm_X6_readsNumber : Room := { frames := 1, cells := 0, slots := 0, locals := 22 }
theorem hy_X6_readsNumber : yX6_readsNumber.cls ≠ "java/lang/invoke/MethodHandle" ∧ yX6_readsNumber.cls ≠ "java/lang/invoke/VarHandle" ∧ (parseMethodDescriptor yX6_readsNumber.desc).map (fun d => d.parameters.length) = some 1 := by decide +kernel
def w_X6_readsNumber_80  (Q : Int32 → z_S → Prop) (x1 : Int32) (x3 : Int32) (x4 : Int32) (σ : z_S) : Prop :=
  if x3 = (zg_i σ 73 9) then (((0 : Int32) = 0 ∨ (0 : Int32) = 1) ∧ Q (0 : Int32) σ) else (if (6 : Int32) < (x3 - (zg_i σ 73 9)) then (((0 : Int32) = 0 ∨ (0 : Int32) = 1) ∧ Q (0 : Int32) σ) else (if x4 ≤ x1 then (∀ σ8 : z_S, σ8 = zs_i σ 73 9 x3 → ∀ σ9 : z_S, σ9 = zs_i σ8 73 10 x4 → ((1 : Int32) = 0 ∨ (1 : Int32) = 1) ∧ Q (1 : Int32) σ9) else (((0 : Int32) = 0 ∨ (0 : Int32) = 1) ∧ Q (0 : Int32) σ)))
def w_X6_readsNumber_72 (k13 : Int32 → Int32 → Int32 → Int32 → z_S → Prop) (Q : Int32 → z_S → Prop) (x1 : Int32) (x2 : Int32) (x3 : Int32) (s0 : Int32) (σ : z_S) : Prop :=
  ∀ y16 : Int32, y16 = (x3 + (1 : Int32)) → k13 x1 x2 y16 s0 σ
def wb_X6_readsNumber_13  (Q : Int32 → z_S → Prop) (k13 : Int32 → Int32 → Int32 → Int32 → z_S → Prop) (x1 : Int32) (x2 : Int32) (x3 : Int32) (x4 : Int32) (σ : z_S) : Prop :=
  if x2 < 0 then (w_X6_readsNumber_80 Q x1 x3 x4 σ) else (if (zg_i σ 73 8) ≤ x3 then (w_X6_readsNumber_80 Q x1 x3 x4 σ) else (vp_in x3 120 ∧ w_X6_in (zg_i σ 80 x3.toNatClampNeg) (48 : Int32) (57 : Int32) σ (fun r12 σ13 => if r12 = 0 then (w_X6_readsNumber_80 Q x1 x3 x4 σ13) else (if (7 : Int32) ≤ (x3 - (zg_i σ13 73 9)) then (w_X6_readsNumber_72 k13 Q x1 x2 x3 x4 σ13) else (vp_in x3 120 ∧ w_X6_readsNumber_72 k13 Q x1 x2 x3 ((((10 : Int32) * x4) + (zg_i σ13 80 x3.toNatClampNeg)) - (48 : Int32)) σ13)))))
def w_X6_readsNumber_13  (Q : Int32 → z_S → Prop) : Nat → Int32 → Int32 → Int32 → Int32 → z_S → Prop
  | 0 => fun _ _ _ _ _ => False
  | n + 1 => wb_X6_readsNumber_13  Q (w_X6_readsNumber_13  Q n)
def w_X6_readsNumber (a1 : Int32) (σ : z_S) (Q : Int32 → z_S → Prop) : Prop :=
  w_X6_here σ (fun r1 σ2 => ∀ y3 : Int32, y3 = (zg_i σ2 73 9) → w_X6_readsNumber_13 Q 400 a1 r1 y3 (0 : Int32) σ2)
set_option maxHeartbeats 4000000 in
set_option maxRecDepth 100000 in
theorem t_X6_readsNumber_80 {l : Launch} {D : va_G} {cI cJ cM cS : ClassId} {n0 : Nat} {p : Program} {e : Env} {s : State} {m : MethodId} {args : Array Value} {below : List Frame} {meth : Method} {c : Code}  {Q : Int32 → z_S → Prop} (hX : z_X D cI cJ cM cS p s m args c cX6_readsNumber 5 yX6_readsNumber.cls) (hY : z_Y s meth (some .boolean))  (x1 : Int32) (x3 : Int32) (x4 : Int32) (σ : z_S) (hf : w_X6_readsNumber_80  Q x1 x3 x4 σ) : z_t D cI cJ cM cS n0 p l e rm_X6_readsNumber s m args below meth c 5 (MQ below (va_Qi Q (fun u t => z_Bq D cI cJ cM cS n0 u t) (z_Ab n0)) args s 0 0 (z_Ab n0)) 0 0 80 [(0, .ref (n0 + 73)), (1, .int x1), (3, .int x3), (4, .int x4)] [] σ := by
  unfold w_X6_readsNumber_80 at hf
  refine zt_iload_n hX 2 dX6_readsNumber_80 rfl rfl ?_
  refine zt_aload_n hX 0 dX6_readsNumber_81 rfl rfl ?_
  refine zt_get_X6 hX (by decide) (zE_73 _ _) 9 (by decide) kw_663 rfl rfl dX6_readsNumber_82 ?_
  refine zt_icmp_eq hX dX6_readsNumber_85 (tgt := 105) (by decide) (fun c5 => ?_) (fun c5 => ?_)
  · replace hf := z_pos hf c5
    refine zt_iconst hX dX6_readsNumber_105 (v := (0 : Int32)) (by decide) ?_
    exact zt_zret hX hY dX6_readsNumber_106 hf
  · replace hf := z_neg hf c5
    refine zt_iload_n hX 2 dX6_readsNumber_88 rfl rfl ?_
    refine zt_aload_n hX 0 dX6_readsNumber_89 rfl rfl ?_
    refine zt_get_X6 hX (by decide) (zE_73 _ _) 9 (by decide) kw_663 rfl rfl dX6_readsNumber_90 ?_
    refine zt_isub hX dX6_readsNumber_93 ?_
    refine zt_bipush hX dX6_readsNumber_94 (v := (6 : Int32)) (by decide) ?_
    refine zt_icmp_gt hX dX6_readsNumber_96 (tgt := 105) (by decide) (fun c6 => ?_) (fun c6 => ?_)
    · replace hf := z_pos hf c6
      refine zt_iconst hX dX6_readsNumber_105 (v := (0 : Int32)) (by decide) ?_
      exact zt_zret hX hY dX6_readsNumber_106 hf
    · replace hf := z_neg hf c6
      refine zt_iload hX 3 dX6_readsNumber_99 rfl ?_
      refine zt_iload_n hX 1 dX6_readsNumber_101 rfl rfl ?_
      refine zt_icmp_le hX dX6_readsNumber_102 (tgt := 107) (by decide) (fun c7 => ?_) (fun c7 => ?_)
      · replace hf := z_pos hf c7
        refine zt_aload_n hX 0 dX6_readsNumber_107 rfl rfl ?_
        refine zt_iload_n hX 2 dX6_readsNumber_108 rfl rfl ?_
        refine zt_puti_X6 hX (by decide) (zE_73 _ _) 9 (by decide) kw_663 rfl rfl (Nat.le_of_ble_eq_true rfl) rfl rfl dX6_readsNumber_109 ?_
        refine zt_nms (fun σ8 d8 => ?_)
        replace hf := hf σ8 d8
        refine zt_aload_n hX 0 dX6_readsNumber_112 rfl rfl ?_
        refine zt_iload hX 3 dX6_readsNumber_113 rfl ?_
        refine zt_puti_X6 hX (by decide) (zE_73 _ _) 10 (by decide) kw_664 rfl rfl (Nat.le_of_ble_eq_true rfl) rfl rfl dX6_readsNumber_115 ?_
        refine zt_nms (fun σ9 d9 => ?_)
        replace hf := hf σ9 d9
        refine zt_iconst hX dX6_readsNumber_118 (v := (1 : Int32)) (by decide) ?_
        exact zt_zret hX hY dX6_readsNumber_119 hf
      · replace hf := z_neg hf c7
        refine zt_iconst hX dX6_readsNumber_105 (v := (0 : Int32)) (by decide) ?_
        exact zt_zret hX hY dX6_readsNumber_106 hf
set_option maxHeartbeats 4000000 in
set_option maxRecDepth 100000 in
theorem t_X6_readsNumber_72 {l : Launch} {D : va_G} {cI cJ cM cS : ClassId} {n0 : Nat} {p : Program} {e : Env} {s : State} {m : MethodId} {args : Array Value} {below : List Frame} {meth : Method} {c : Code} {k13 : Int32 → Int32 → Int32 → Int32 → z_S → Prop} {Q : Int32 → z_S → Prop} (hX : z_X D cI cJ cM cS p s m args c cX6_readsNumber 5 yX6_readsNumber.cls) (hY : z_Y s meth (some .boolean)) (hk13 : ∀ (x1 : Int32) (x2 : Int32) (x3 : Int32) (x4 : Int32) (σ : z_S), k13 x1 x2 x3 x4 σ → z_t D cI cJ cM cS n0 p l e rm_X6_readsNumber s m args below meth c 5 (MQ below (va_Qi Q (fun u t => z_Bq D cI cJ cM cS n0 u t) (z_Ab n0)) args s 0 0 (z_Ab n0)) 0 0 13 [(0, .ref (n0 + 73)), (1, .int x1), (2, .int x2), (3, .int x3), (4, .int x4)] [] σ) (x1 : Int32) (x2 : Int32) (x3 : Int32) (s0 : Int32) (σ : z_S) (hf : w_X6_readsNumber_72 k13 Q x1 x2 x3 s0 σ) : z_t D cI cJ cM cS n0 p l e rm_X6_readsNumber s m args below meth c 5 (MQ below (va_Qi Q (fun u t => z_Bq D cI cJ cM cS n0 u t) (z_Ab n0)) args s 0 0 (z_Ab n0)) 0 0 72 [(0, .ref (n0 + 73)), (1, .int x1), (2, .int x2), (3, .int x3)] [.int s0] σ := by
  unfold w_X6_readsNumber_72 at hf
  refine zt_istore (L' := [(4, .int s0), (0, .ref (n0 + 73)), (1, .int x1), (2, .int x2), (3, .int x3)]) hX dX6_readsNumber_72 (by decide) rfl ?_
  obtain ⟨y16, e16⟩ : ∃ y : Int32, y = (x3 + (1 : Int32)) := ⟨_, rfl⟩
  replace hf := hf y16 e16
  refine zt_iinc (L' := [(3, .int y16), (4, .int s0), (0, .ref (n0 + 73)), (1, .int x1), (2, .int x2)]) hX 4 dX6_readsNumber_74 rfl (v := y16) (by rw [e16]; rfl) (by decide) rfl ?_
  refine zt_goto hX dX6_readsNumber_77 (tgt := 13) (by decide) ?_
  exact zt_sub [2, 3, 4, 0, 1] rfl (hk13 _ _ _ _ _ hf)
set_option maxHeartbeats 4000000 in
set_option maxRecDepth 100000 in
theorem t_X6_readsNumber_13 {l : Launch} {D : va_G} {cI cJ cM cS : ClassId} {n0 : Nat} {p : Program} {e : Env} {s : State} {m : MethodId} {args : Array Value} {below : List Frame} {meth : Method} {c : Code}  {Q : Int32 → z_S → Prop} (hX : z_X D cI cJ cM cS p s m args c cX6_readsNumber 5 yX6_readsNumber.cls) (hY : z_Y s meth (some .boolean))  : ∀ (n : Nat) (x1 : Int32) (x2 : Int32) (x3 : Int32) (x4 : Int32) (σ : z_S), w_X6_readsNumber_13  Q n x1 x2 x3 x4 σ → z_t D cI cJ cM cS n0 p l e rm_X6_readsNumber s m args below meth c 5 (MQ below (va_Qi Q (fun u t => z_Bq D cI cJ cM cS n0 u t) (z_Ab n0)) args s 0 0 (z_Ab n0)) 0 0 13 [(0, .ref (n0 + 73)), (1, .int x1), (2, .int x2), (3, .int x3), (4, .int x4)] [] σ := by
  intro n
  induction n with
  | zero => intro _ _ _ _ _ hf; exact hf.elim
  | succ n ih13 =>
    intro x1 x2 x3 x4 σ hf
    have hf : wb_X6_readsNumber_13  Q (w_X6_readsNumber_13  Q n) x1 x2 x3 x4 σ := hf
    unfold wb_X6_readsNumber_13 at hf
    refine zt_iload_n hX 2 dX6_readsNumber_13 rfl rfl ?_
    refine zt_if_lt hX dX6_readsNumber_14 (tgt := 80) (by decide) (fun c4 => ?_) (fun c4 => ?_)
    · replace hf := z_pos hf c4
      exact zt_sub [0, 1, 3, 4] rfl (t_X6_readsNumber_80 hX hY _ _ _ _ hf)
    · replace hf := z_neg hf c4
      refine zt_iload_n hX 3 dX6_readsNumber_17 rfl rfl ?_
      refine zt_aload_n hX 0 dX6_readsNumber_18 rfl rfl ?_
      refine zt_get_X6 hX (by decide) (zE_73 _ _) 8 (by decide) kw_662 rfl rfl dX6_readsNumber_19 ?_
      refine zt_icmp_ge hX dX6_readsNumber_22 (tgt := 80) (by decide) (fun c10 => ?_) (fun c10 => ?_)
      · replace hf := z_pos hf c10
        exact zt_sub [0, 1, 3, 4] rfl (t_X6_readsNumber_80 hX hY _ _ _ _ hf)
      · replace hf := z_neg hf c10
        refine zt_aload_n hX 0 dX6_readsNumber_25 rfl rfl ?_
        refine zt_get_X6 hX (by decide) (zE_73 _ _) 7 (by decide) kw_661 rfl rfl dX6_readsNumber_26 ?_
        refine zt_iload_n hX 3 dX6_readsNumber_29 rfl rfl ?_
        obtain ⟨h11, hf⟩ := hf
        refine zt_iaload hX dX6_readsNumber_30 (by decide) rfl h11 ?_
        refine zt_bipush hX dX6_readsNumber_31 (v := (48 : Int32)) (by decide) ?_
        refine zt_bipush hX dX6_readsNumber_33 (v := (57 : Int32)) (by decide) ?_
        refine zt_calliS hX hY (av := [.int (zg_i σ 80 x3.toNatClampNeg), .int (48 : Int32), .int (57 : Int32)]) (c_X6_in hf) dX6_readsNumber_35 rfl kw_702 kw_703 kw_67 kw_704 ⟨rfl, rfl⟩ hy_X6_in ⟨by decide, by decide⟩ ⟨by decide, by decide⟩ (Nat.le_of_ble_eq_true rfl) (fun r12 σ13 hf => ?_)
        refine zt_if_eq hX dX6_readsNumber_38 (tgt := 80) (by decide) (fun c14 => ?_) (fun c14 => ?_)
        · replace hf := z_pos hf c14
          exact zt_sub [0, 1, 3, 4] rfl (t_X6_readsNumber_80 hX hY _ _ _ _ hf)
        · replace hf := z_neg hf c14
          refine zt_iload_n hX 3 dX6_readsNumber_41 rfl rfl ?_
          refine zt_aload_n hX 0 dX6_readsNumber_42 rfl rfl ?_
          refine zt_get_X6 hX (by decide) (zE_73 _ _) 9 (by decide) kw_663 rfl rfl dX6_readsNumber_43 ?_
          refine zt_isub hX dX6_readsNumber_46 ?_
          refine zt_bipush hX dX6_readsNumber_47 (v := (7 : Int32)) (by decide) ?_
          refine zt_icmp_ge hX dX6_readsNumber_49 (tgt := 70) (by decide) (fun c15 => ?_) (fun c15 => ?_)
          · replace hf := z_pos hf c15
            refine zt_iload hX 4 dX6_readsNumber_70 rfl ?_
            exact zt_sub [0, 1, 2, 3] rfl (t_X6_readsNumber_72 hX hY ih13 _ _ _ _ _ hf)
          · replace hf := z_neg hf c15
            refine zt_bipush hX dX6_readsNumber_52 (v := (10 : Int32)) (by decide) ?_
            refine zt_iload hX 4 dX6_readsNumber_54 rfl ?_
            refine zt_imul hX dX6_readsNumber_56 ?_
            refine zt_aload_n hX 0 dX6_readsNumber_57 rfl rfl ?_
            refine zt_get_X6 hX (by decide) (zE_73 _ _) 7 (by decide) kw_661 rfl rfl dX6_readsNumber_58 ?_
            refine zt_iload_n hX 3 dX6_readsNumber_61 rfl rfl ?_
            obtain ⟨h17, hf⟩ := hf
            refine zt_iaload hX dX6_readsNumber_62 (by decide) rfl h17 ?_
            refine zt_iadd hX dX6_readsNumber_63 ?_
            refine zt_bipush hX dX6_readsNumber_64 (v := (48 : Int32)) (by decide) ?_
            refine zt_isub hX dX6_readsNumber_66 ?_
            refine zt_goto hX dX6_readsNumber_67 (tgt := 72) (by decide) ?_
            exact zt_sub [0, 1, 2, 3] rfl (t_X6_readsNumber_72 hX hY ih13 _ _ _ _ _ hf)
set_option maxHeartbeats 4000000 in
set_option maxRecDepth 100000 in
theorem c_X6_readsNumber {l : Launch} {D : va_G} {cI cJ cM cS : ClassId} {n0 : Nat} {a1 : Int32} {σ : z_S} {Q : Int32 → z_S → Prop} (hf : w_X6_readsNumber a1 σ Q) : z_ci l D cI cJ cM cS n0 yX6_readsNumber cX6_readsNumber 5 .boolean rm_X6_readsNumber 0 0 [.ref (n0 + 73), .int a1] σ Q := by
  refine z_ofi (by decide +kernel) (Nat.le_of_ble_eq_true rfl) (fun p e s m args below meth c hX hY => ?_)
  unfold w_X6_readsNumber at hf
  refine zt_L (L' := [(0, .ref (n0 + 73)), (1, .int a1)]) rfl ?_
  refine zt_aload_n hX 0 dX6_readsNumber_0 rfl rfl ?_
  refine zt_calliV hX hY (av := []) (c_X6_here hf) dX6_readsNumber_1 rfl kw_1007 kw_1009 kw_57 kw_67 kw_1010 ⟨rfl, rfl⟩ hy_X6_here ⟨by decide, by decide⟩ ⟨by decide, by decide⟩ (Nat.le_of_ble_eq_true rfl) (by decide) (zE_73 _ _) rfl rfl (fun r1 σ2 hf => ?_)
  refine zt_istore_n (L' := [(2, .int r1), (0, .ref (n0 + 73)), (1, .int a1)]) hX dX6_readsNumber_4 rfl (by decide) rfl ?_
  refine zt_aload_n hX 1 dX6_readsNumber_5 rfl rfl ?_
  refine zt_get_X6 hX (by decide) (zE_73 _ _) 9 (by decide) kw_663 rfl rfl dX6_readsNumber_6 ?_
  refine zt_nmi (fun y3 e3 => ?_)
  replace hf := hf y3 e3
  refine zt_istore_n (L' := [(3, .int y3), (2, .int r1), (0, .ref (n0 + 73)), (1, .int a1)]) hX dX6_readsNumber_9 rfl (by decide) rfl ?_
  refine zt_iconst hX dX6_readsNumber_10 (v := (0 : Int32)) (by decide) ?_
  refine zt_istore (L' := [(4, .int (0 : Int32)), (3, .int y3), (2, .int r1), (0, .ref (n0 + 73)), (1, .int a1)]) hX dX6_readsNumber_11 (by decide) rfl ?_
  exact zt_sub [3, 4, 2, 1, 0] rfl (t_X6_readsNumber_13 hX hY 400 _ _ _ _ _ hf)

theorem dX6_readsOne_0 : decode cX6_readsOne 0 = .ok (.aload_n 0, 1) := by decide +kernel
theorem dX6_readsOne_1 : decode cX6_readsOne 1 = .ok (.aload_n 0, 1) := by decide +kernel
theorem dX6_readsOne_2 : decode cX6_readsOne 2 = .ok (.getfield 7, 3) := by decide +kernel
theorem dX6_readsOne_5 : decode cX6_readsOne 5 = .ok (.iconst 0, 1) := by decide +kernel
theorem dX6_readsOne_6 : decode cX6_readsOne 6 = .ok (.iaload, 1) := by decide +kernel
theorem dX6_readsOne_7 : decode cX6_readsOne 7 = .ok (.iconst 1, 1) := by decide +kernel
theorem dX6_readsOne_8 : decode cX6_readsOne 8 = .ok (.isub, 1) := by decide +kernel
theorem dX6_readsOne_9 : decode cX6_readsOne 9 = .ok (.invokevirtual 184, 3) := by decide +kernel
theorem dX6_readsOne_12 : decode cX6_readsOne 12 = .ok (.ifCond .ne 5, 3) := by decide +kernel
theorem dX6_readsOne_15 : decode cX6_readsOne 15 = .ok (.iconst 0, 1) := by decide +kernel
theorem dX6_readsOne_16 : decode cX6_readsOne 16 = .ok (.ireturn, 1) := by decide +kernel
theorem dX6_readsOne_17 : decode cX6_readsOne 17 = .ok (.aload_n 0, 1) := by decide +kernel
theorem dX6_readsOne_18 : decode cX6_readsOne 18 = .ok (.getfield 181, 3) := by decide +kernel
theorem dX6_readsOne_21 : decode cX6_readsOne 21 = .ok (.istore_n 2, 1) := by decide +kernel
theorem dX6_readsOne_22 : decode cX6_readsOne 22 = .ok (.aload_n 0, 1) := by decide +kernel
theorem dX6_readsOne_23 : decode cX6_readsOne 23 = .ok (.bipush 64, 2) := by decide +kernel
theorem dX6_readsOne_25 : decode cX6_readsOne 25 = .ok (.invokevirtual 187, 3) := by decide +kernel
theorem dX6_readsOne_28 : decode cX6_readsOne 28 = .ok (.ifCond .eq 12, 3) := by decide +kernel
theorem dX6_readsOne_31 : decode cX6_readsOne 31 = .ok (.aload_n 0, 1) := by decide +kernel
theorem dX6_readsOne_32 : decode cX6_readsOne 32 = .ok (.bipush 12, 2) := by decide +kernel
theorem dX6_readsOne_34 : decode cX6_readsOne 34 = .ok (.invokevirtual 184, 3) := by decide +kernel
theorem dX6_readsOne_37 : decode cX6_readsOne 37 = .ok (.ifCond .ne 5, 3) := by decide +kernel
theorem dX6_readsOne_40 : decode cX6_readsOne 40 = .ok (.iconst 0, 1) := by decide +kernel
theorem dX6_readsOne_41 : decode cX6_readsOne 41 = .ok (.ireturn, 1) := by decide +kernel
theorem dX6_readsOne_42 : decode cX6_readsOne 42 = .ok (.aload_n 0, 1) := by decide +kernel
theorem dX6_readsOne_43 : decode cX6_readsOne 43 = .ok (.getfield 181, 3) := by decide +kernel
theorem dX6_readsOne_46 : decode cX6_readsOne 46 = .ok (.istore_n 3, 1) := by decide +kernel
theorem dX6_readsOne_47 : decode cX6_readsOne 47 = .ok (.aload_n 0, 1) := by decide +kernel
theorem dX6_readsOne_48 : decode cX6_readsOne 48 = .ok (.bipush 61, 2) := by decide +kernel
theorem dX6_readsOne_50 : decode cX6_readsOne 50 = .ok (.invokevirtual 187, 3) := by decide +kernel
theorem dX6_readsOne_53 : decode cX6_readsOne 53 = .ok (.ifCond .ne 5, 3) := by decide +kernel
theorem dX6_readsOne_56 : decode cX6_readsOne 56 = .ok (.iconst 0, 1) := by decide +kernel
theorem dX6_readsOne_57 : decode cX6_readsOne 57 = .ok (.ireturn, 1) := by decide +kernel
theorem dX6_readsOne_58 : decode cX6_readsOne 58 = .ok (.aload_n 0, 1) := by decide +kernel
theorem dX6_readsOne_59 : decode cX6_readsOne 59 = .ok (.bipush 45, 2) := by decide +kernel
theorem dX6_readsOne_61 : decode cX6_readsOne 61 = .ok (.invokevirtual 187, 3) := by decide +kernel
theorem dX6_readsOne_64 : decode cX6_readsOne 64 = .ok (.istore 4, 2) := by decide +kernel
theorem dX6_readsOne_66 : decode cX6_readsOne 66 = .ok (.iload 4, 2) := by decide +kernel
theorem dX6_readsOne_68 : decode cX6_readsOne 68 = .ok (.ifCond .ne 19, 3) := by decide +kernel
theorem dX6_readsOne_71 : decode cX6_readsOne 71 = .ok (.aload_n 0, 1) := by decide +kernel
theorem dX6_readsOne_72 : decode cX6_readsOne 72 = .ok (.aload_n 0, 1) := by decide +kernel
theorem dX6_readsOne_73 : decode cX6_readsOne 73 = .ok (.iload_n 2, 1) := by decide +kernel
theorem dX6_readsOne_74 : decode cX6_readsOne 74 = .ok (.invokevirtual 78, 3) := by decide +kernel
theorem dX6_readsOne_77 : decode cX6_readsOne 77 = .ok (.iconst 1, 1) := by decide +kernel
theorem dX6_readsOne_78 : decode cX6_readsOne 78 = .ok (.isub, 1) := by decide +kernel
theorem dX6_readsOne_79 : decode cX6_readsOne 79 = .ok (.invokevirtual 184, 3) := by decide +kernel
theorem dX6_readsOne_82 : decode cX6_readsOne 82 = .ok (.ifCond .ne 5, 3) := by decide +kernel
theorem dX6_readsOne_85 : decode cX6_readsOne 85 = .ok (.iconst 0, 1) := by decide +kernel
theorem dX6_readsOne_86 : decode cX6_readsOne 86 = .ok (.ireturn, 1) := by decide +kernel
theorem dX6_readsOne_87 : decode cX6_readsOne 87 = .ok (.aload_n 0, 1) := by decide +kernel
theorem dX6_readsOne_88 : decode cX6_readsOne 88 = .ok (.dup, 1) := by decide +kernel
theorem dX6_readsOne_89 : decode cX6_readsOne 89 = .ok (.getfield 190, 3) := by decide +kernel
theorem dX6_readsOne_92 : decode cX6_readsOne 92 = .ok (.iload 4, 2) := by decide +kernel
theorem dX6_readsOne_94 : decode cX6_readsOne 94 = .ok (.ifCond .eq 7, 3) := by decide +kernel
theorem dX6_readsOne_97 : decode cX6_readsOne 97 = .ok (.iconst 0, 1) := by decide +kernel
theorem dX6_readsOne_98 : decode cX6_readsOne 98 = .ok (.goto 4, 3) := by decide +kernel
theorem dX6_readsOne_101 : decode cX6_readsOne 101 = .ok (.iconst 1, 1) := by decide +kernel
theorem dX6_readsOne_102 : decode cX6_readsOne 102 = .ok (.iadd, 1) := by decide +kernel
theorem dX6_readsOne_103 : decode cX6_readsOne 103 = .ok (.putfield 190, 3) := by decide +kernel
theorem dX6_readsOne_106 : decode cX6_readsOne 106 = .ok (.iload_n 1, 1) := by decide +kernel
theorem dX6_readsOne_107 : decode cX6_readsOne 107 = .ok (.ifCond .eq 25, 3) := by decide +kernel
theorem dX6_readsOne_110 : decode cX6_readsOne 110 = .ok (.aload_n 0, 1) := by decide +kernel
theorem dX6_readsOne_111 : decode cX6_readsOne 111 = .ok (.iload_n 2, 1) := by decide +kernel
theorem dX6_readsOne_112 : decode cX6_readsOne 112 = .ok (.iconst 5, 1) := by decide +kernel
theorem dX6_readsOne_113 : decode cX6_readsOne 113 = .ok (.iload_n 3, 1) := by decide +kernel
theorem dX6_readsOne_114 : decode cX6_readsOne 114 = .ok (.iadd, 1) := by decide +kernel
theorem dX6_readsOne_115 : decode cX6_readsOne 115 = .ok (.iload 4, 2) := by decide +kernel
theorem dX6_readsOne_117 : decode cX6_readsOne 117 = .ok (.ifCond .eq 8, 3) := by decide +kernel
theorem dX6_readsOne_120 : decode cX6_readsOne 120 = .ok (.ldc 48, 2) := by decide +kernel
theorem dX6_readsOne_122 : decode cX6_readsOne 122 = .ok (.goto 7, 3) := by decide +kernel
theorem dX6_readsOne_125 : decode cX6_readsOne 125 = .ok (.aload_n 0, 1) := by decide +kernel
theorem dX6_readsOne_126 : decode cX6_readsOne 126 = .ok (.getfield 181, 3) := by decide +kernel
theorem dX6_readsOne_129 : decode cX6_readsOne 129 = .ok (.invokevirtual 49, 3) := by decide +kernel
theorem dX6_readsOne_132 : decode cX6_readsOne 132 = .ok (.iconst 1, 1) := by decide +kernel
theorem dX6_readsOne_133 : decode cX6_readsOne 133 = .ok (.ireturn, 1) := by decide +kernel
abbrev rm_X6_readsOne : Room := { frames := 2, cells := 0, slots := 0, locals := 46 }
theorem hy_X6_readsOne : yX6_readsOne.cls ≠ "java/lang/invoke/MethodHandle" ∧ yX6_readsOne.cls ≠ "java/lang/invoke/VarHandle" ∧ (parseMethodDescriptor yX6_readsOne.desc).map (fun d => d.parameters.length) = some 1 := by decide +kernel
def w_X6_readsOne_129  (Q : Int32 → z_S → Prop) (s0 : Int32) (s1 : Int32) (s2 : Int32) (σ : z_S) : Prop :=
  w_X6_sets s2 s1 s0 σ (fun σ24 => ((1 : Int32) = 0 ∨ (1 : Int32) = 1) ∧ Q (1 : Int32) σ24)
def w_X6_readsOne_102  (Q : Int32 → z_S → Prop) (x1 : Int32) (x2 : Int32) (x3 : Int32) (x4 : Int32) (s0 : Int32) (s1 : Int32) (σ : z_S) : Prop :=
  ∀ σ20 : z_S, σ20 = zs_i σ 73 11 (s1 + s0) → if x1 = 0 then (((1 : Int32) = 0 ∨ (1 : Int32) = 1) ∧ Q (1 : Int32) σ20) else (if x4 = 0 then (w_X6_readsOne_129 Q (zg_i σ20 73 10) ((5 : Int32) + x3) x2 σ20) else (w_X6_readsOne_129 Q (-2000000000 : Int32) ((5 : Int32) + x3) x2 σ20))
def w_X6_readsOne_87  (Q : Int32 → z_S → Prop) (x1 : Int32) (x2 : Int32) (x3 : Int32) (x4 : Int32) (σ : z_S) : Prop :=
  if x4 = 0 then (w_X6_readsOne_102 Q x1 x2 x3 x4 (1 : Int32) (zg_i σ 73 11) σ) else (w_X6_readsOne_102 Q x1 x2 x3 x4 (0 : Int32) (zg_i σ 73 11) σ)
def w_X6_readsOne (a1 : Int32) (σ : z_S) (Q : Int32 → z_S → Prop) : Prop :=
  vp_in (0 : Int32) 1584 ∧ w_X6_readsNumber ((zg_i σ 74 (0 : Int32).toNatClampNeg) - (1 : Int32)) σ (fun r2 σ3 => if r2 = 0 then (((0 : Int32) = 0 ∨ (0 : Int32) = 1) ∧ Q (0 : Int32) σ3) else (∀ y5 : Int32, y5 = (zg_i σ3 73 10) → w_X6_sign (64 : Int32) σ3 (fun r6 σ7 => if r6 = 0 then (((0 : Int32) = 0 ∨ (0 : Int32) = 1) ∧ Q (0 : Int32) σ7) else (w_X6_readsNumber (12 : Int32) σ7 (fun r9 σ10 => if r9 = 0 then (((0 : Int32) = 0 ∨ (0 : Int32) = 1) ∧ Q (0 : Int32) σ10) else (∀ y12 : Int32, y12 = (zg_i σ10 73 10) → w_X6_sign (61 : Int32) σ10 (fun r13 σ14 => if r13 = 0 then (((0 : Int32) = 0 ∨ (0 : Int32) = 1) ∧ Q (0 : Int32) σ14) else (w_X6_sign (45 : Int32) σ14 (fun r16 σ17 => if r16 = 0 then (w_X6_whole y5 σ17 (fun r25 σ26 => w_X6_readsNumber (r25 - (1 : Int32)) σ26 (fun r27 σ28 => if r27 = 0 then (((0 : Int32) = 0 ∨ (0 : Int32) = 1) ∧ Q (0 : Int32) σ28) else (w_X6_readsOne_87 Q a1 y5 y12 r16 σ28)))) else (w_X6_readsOne_87 Q a1 y5 y12 r16 σ17))))))))))
set_option maxHeartbeats 4000000 in
set_option maxRecDepth 100000 in
theorem t_X6_readsOne_129 {l : Launch} {D : va_G} {cI cJ cM cS : ClassId} {n0 : Nat} {p : Program} {e : Env} {s : State} {m : MethodId} {args : Array Value} {below : List Frame} {meth : Method} {c : Code}  {Q : Int32 → z_S → Prop} (hX : z_X D cI cJ cM cS p s m args c cX6_readsOne 5 yX6_readsOne.cls) (hY : z_Y s meth (some .boolean))  (s0 : Int32) (s1 : Int32) (s2 : Int32) (σ : z_S) (hf : w_X6_readsOne_129  Q s0 s1 s2 σ) : z_t D cI cJ cM cS n0 p l e rm_X6_readsOne s m args below meth c 5 (MQ below (va_Qi Q (fun u t => z_Bq D cI cJ cM cS n0 u t) (z_Ab n0)) args s 0 0 (z_Ab n0)) 0 0 129 [] [.int s0, .int s1, .int s2, .ref (n0 + 73)] σ := by
  unfold w_X6_readsOne_129 at hf
  refine zt_callvV hX hY (av := [.int s2, .int s1, .int s0]) (c_X6_sets hf) dX6_readsOne_129 rfl kw_716 kw_718 kw_23 kw_67 kw_719 ⟨rfl, rfl⟩ hy_X6_sets ⟨by decide, by decide⟩ ⟨by decide, by decide⟩ (Nat.le_of_ble_eq_true rfl) (by decide) (zE_73 _ _) rfl rfl (fun σ24 hf => ?_)
  refine zt_iconst hX dX6_readsOne_132 (v := (1 : Int32)) (by decide) ?_
  exact zt_zret hX hY dX6_readsOne_133 hf
set_option maxHeartbeats 4000000 in
set_option maxRecDepth 100000 in
theorem t_X6_readsOne_102 {l : Launch} {D : va_G} {cI cJ cM cS : ClassId} {n0 : Nat} {p : Program} {e : Env} {s : State} {m : MethodId} {args : Array Value} {below : List Frame} {meth : Method} {c : Code}  {Q : Int32 → z_S → Prop} (hX : z_X D cI cJ cM cS p s m args c cX6_readsOne 5 yX6_readsOne.cls) (hY : z_Y s meth (some .boolean))  (x1 : Int32) (x2 : Int32) (x3 : Int32) (x4 : Int32) (s0 : Int32) (s1 : Int32) (σ : z_S) (hf : w_X6_readsOne_102  Q x1 x2 x3 x4 s0 s1 σ) : z_t D cI cJ cM cS n0 p l e rm_X6_readsOne s m args below meth c 5 (MQ below (va_Qi Q (fun u t => z_Bq D cI cJ cM cS n0 u t) (z_Ab n0)) args s 0 0 (z_Ab n0)) 0 0 102 [(0, .ref (n0 + 73)), (1, .int x1), (2, .int x2), (3, .int x3), (4, .int x4)] [.int s0, .int s1, .ref (n0 + 73)] σ := by
  unfold w_X6_readsOne_102 at hf
  refine zt_iadd hX dX6_readsOne_102 ?_
  refine zt_puti_X6 hX (by decide) (zE_73 _ _) 11 (by decide) kw_665 rfl rfl (Nat.le_of_ble_eq_true rfl) rfl rfl dX6_readsOne_103 ?_
  refine zt_nms (fun σ20 d20 => ?_)
  replace hf := hf σ20 d20
  refine zt_iload_n hX 1 dX6_readsOne_106 rfl rfl ?_
  refine zt_if_eq hX dX6_readsOne_107 (tgt := 132) (by decide) (fun c21 => ?_) (fun c21 => ?_)
  · replace hf := z_pos hf c21
    refine zt_iconst hX dX6_readsOne_132 (v := (1 : Int32)) (by decide) ?_
    exact zt_zret hX hY dX6_readsOne_133 hf
  · replace hf := z_neg hf c21
    refine zt_aload_n hX 0 dX6_readsOne_110 rfl rfl ?_
    refine zt_iload_n hX 2 dX6_readsOne_111 rfl rfl ?_
    refine zt_iconst hX dX6_readsOne_112 (v := (5 : Int32)) (by decide) ?_
    refine zt_iload_n hX 3 dX6_readsOne_113 rfl rfl ?_
    refine zt_iadd hX dX6_readsOne_114 ?_
    refine zt_iload hX 4 dX6_readsOne_115 rfl ?_
    refine zt_if_eq hX dX6_readsOne_117 (tgt := 125) (by decide) (fun c22 => ?_) (fun c22 => ?_)
    · replace hf := z_pos hf c22
      refine zt_aload_n hX 0 dX6_readsOne_125 rfl rfl ?_
      refine zt_get_X6 hX (by decide) (zE_73 _ _) 10 (by decide) kw_664 rfl rfl dX6_readsOne_126 ?_
      exact zt_sub [] rfl (t_X6_readsOne_129 hX hY _ _ _ _ hf)
    · replace hf := z_neg hf c22
      refine zt_ldc hX dX6_readsOne_120 kw_715 ?_
      refine zt_goto hX dX6_readsOne_122 (tgt := 129) (by decide) ?_
      exact zt_sub [] rfl (t_X6_readsOne_129 hX hY _ _ _ _ hf)
set_option maxHeartbeats 4000000 in
set_option maxRecDepth 100000 in
theorem t_X6_readsOne_87 {l : Launch} {D : va_G} {cI cJ cM cS : ClassId} {n0 : Nat} {p : Program} {e : Env} {s : State} {m : MethodId} {args : Array Value} {below : List Frame} {meth : Method} {c : Code}  {Q : Int32 → z_S → Prop} (hX : z_X D cI cJ cM cS p s m args c cX6_readsOne 5 yX6_readsOne.cls) (hY : z_Y s meth (some .boolean))  (x1 : Int32) (x2 : Int32) (x3 : Int32) (x4 : Int32) (σ : z_S) (hf : w_X6_readsOne_87  Q x1 x2 x3 x4 σ) : z_t D cI cJ cM cS n0 p l e rm_X6_readsOne s m args below meth c 5 (MQ below (va_Qi Q (fun u t => z_Bq D cI cJ cM cS n0 u t) (z_Ab n0)) args s 0 0 (z_Ab n0)) 0 0 87 [(0, .ref (n0 + 73)), (1, .int x1), (2, .int x2), (3, .int x3), (4, .int x4)] [] σ := by
  unfold w_X6_readsOne_87 at hf
  refine zt_aload_n hX 0 dX6_readsOne_87 rfl rfl ?_
  refine zt_dup hX dX6_readsOne_88 rfl ?_
  refine zt_get_X6 hX (by decide) (zE_73 _ _) 11 (by decide) kw_665 rfl rfl dX6_readsOne_89 ?_
  refine zt_iload hX 4 dX6_readsOne_92 rfl ?_
  refine zt_if_eq hX dX6_readsOne_94 (tgt := 101) (by decide) (fun c19 => ?_) (fun c19 => ?_)
  · replace hf := z_pos hf c19
    refine zt_iconst hX dX6_readsOne_101 (v := (1 : Int32)) (by decide) ?_
    exact zt_sub [0, 1, 2, 3, 4] rfl (t_X6_readsOne_102 hX hY _ _ _ _ _ _ _ hf)
  · replace hf := z_neg hf c19
    refine zt_iconst hX dX6_readsOne_97 (v := (0 : Int32)) (by decide) ?_
    refine zt_goto hX dX6_readsOne_98 (tgt := 102) (by decide) ?_
    exact zt_sub [0, 1, 2, 3, 4] rfl (t_X6_readsOne_102 hX hY _ _ _ _ _ _ _ hf)
set_option maxHeartbeats 4000000 in
set_option maxRecDepth 100000 in
theorem c_X6_readsOne {l : Launch} {D : va_G} {cI cJ cM cS : ClassId} {n0 : Nat} {a1 : Int32} {σ : z_S} {Q : Int32 → z_S → Prop} (hf : w_X6_readsOne a1 σ Q) : z_ci l D cI cJ cM cS n0 yX6_readsOne cX6_readsOne 5 .boolean rm_X6_readsOne 0 0 [.ref (n0 + 73), .int a1] σ Q := by
  refine z_ofi (by decide +kernel) (Nat.le_of_ble_eq_true rfl) (fun p e s m args below meth c hX hY => ?_)
  unfold w_X6_readsOne at hf
  refine zt_L (L' := [(0, .ref (n0 + 73)), (1, .int a1)]) rfl ?_
  refine zt_aload_n hX 0 dX6_readsOne_0 rfl rfl ?_
  refine zt_aload_n hX 0 dX6_readsOne_1 rfl rfl ?_
  refine zt_get_X6 hX (by decide) (zE_73 _ _) 0 (by decide) kw_654 rfl rfl dX6_readsOne_2 ?_
  refine zt_iconst hX dX6_readsOne_5 (v := (0 : Int32)) (by decide) ?_
  obtain ⟨h1, hf⟩ := hf
  refine zt_iaload hX dX6_readsOne_6 (by decide) rfl h1 ?_
  refine zt_iconst hX dX6_readsOne_7 (v := (1 : Int32)) (by decide) ?_
  refine zt_isub hX dX6_readsOne_8 ?_
  refine zt_calliV hX hY (av := [.int ((zg_i σ 74 (0 : Int32).toNatClampNeg) - (1 : Int32))]) (c_X6_readsNumber hf) dX6_readsOne_9 rfl kw_1003 kw_1005 kw_56 kw_67 kw_1006 ⟨rfl, rfl⟩ hy_X6_readsNumber ⟨by decide, by decide⟩ ⟨by decide, by decide⟩ (Nat.le_of_ble_eq_true rfl) (by decide) (zE_73 _ _) rfl rfl (fun r2 σ3 hf => ?_)
  refine zt_if_ne hX dX6_readsOne_12 (tgt := 17) (by decide) (fun c4 => ?_) (fun c4 => ?_)
  · replace hf := z_neg hf c4
    refine zt_aload_n hX 0 dX6_readsOne_17 rfl rfl ?_
    refine zt_get_X6 hX (by decide) (zE_73 _ _) 10 (by decide) kw_664 rfl rfl dX6_readsOne_18 ?_
    refine zt_nmi (fun y5 e5 => ?_)
    replace hf := hf y5 e5
    refine zt_istore_n (L' := [(2, .int y5), (0, .ref (n0 + 73)), (1, .int a1)]) hX dX6_readsOne_21 rfl (by decide) rfl ?_
    refine zt_aload_n hX 1 dX6_readsOne_22 rfl rfl ?_
    refine zt_bipush hX dX6_readsOne_23 (v := (64 : Int32)) (by decide) ?_
    refine zt_calliV hX hY (av := [.int (64 : Int32)]) (c_X6_sign hf) dX6_readsOne_25 rfl kw_1011 kw_1013 kw_58 kw_67 kw_1014 ⟨rfl, rfl⟩ hy_X6_sign ⟨by decide, by decide⟩ ⟨by decide, by decide⟩ (Nat.le_of_ble_eq_true rfl) (by decide) (zE_73 _ _) rfl rfl (fun r6 σ7 hf => ?_)
    refine zt_if_eq hX dX6_readsOne_28 (tgt := 40) (by decide) (fun c8 => ?_) (fun c8 => ?_)
    · replace hf := z_pos hf c8
      refine zt_iconst hX dX6_readsOne_40 (v := (0 : Int32)) (by decide) ?_
      exact zt_zret hX hY dX6_readsOne_41 hf
    · replace hf := z_neg hf c8
      refine zt_aload_n hX 1 dX6_readsOne_31 rfl rfl ?_
      refine zt_bipush hX dX6_readsOne_32 (v := (12 : Int32)) (by decide) ?_
      refine zt_calliV hX hY (av := [.int (12 : Int32)]) (c_X6_readsNumber hf) dX6_readsOne_34 rfl kw_1003 kw_1005 kw_56 kw_67 kw_1006 ⟨rfl, rfl⟩ hy_X6_readsNumber ⟨by decide, by decide⟩ ⟨by decide, by decide⟩ (Nat.le_of_ble_eq_true rfl) (by decide) (zE_73 _ _) rfl rfl (fun r9 σ10 hf => ?_)
      refine zt_if_ne hX dX6_readsOne_37 (tgt := 42) (by decide) (fun c11 => ?_) (fun c11 => ?_)
      · replace hf := z_neg hf c11
        refine zt_aload_n hX 1 dX6_readsOne_42 rfl rfl ?_
        refine zt_get_X6 hX (by decide) (zE_73 _ _) 10 (by decide) kw_664 rfl rfl dX6_readsOne_43 ?_
        refine zt_nmi (fun y12 e12 => ?_)
        replace hf := hf y12 e12
        refine zt_istore_n (L' := [(3, .int y12), (2, .int y5), (0, .ref (n0 + 73)), (1, .int a1)]) hX dX6_readsOne_46 rfl (by decide) rfl ?_
        refine zt_aload_n hX 2 dX6_readsOne_47 rfl rfl ?_
        refine zt_bipush hX dX6_readsOne_48 (v := (61 : Int32)) (by decide) ?_
        refine zt_calliV hX hY (av := [.int (61 : Int32)]) (c_X6_sign hf) dX6_readsOne_50 rfl kw_1011 kw_1013 kw_58 kw_67 kw_1014 ⟨rfl, rfl⟩ hy_X6_sign ⟨by decide, by decide⟩ ⟨by decide, by decide⟩ (Nat.le_of_ble_eq_true rfl) (by decide) (zE_73 _ _) rfl rfl (fun r13 σ14 hf => ?_)
        refine zt_if_ne hX dX6_readsOne_53 (tgt := 58) (by decide) (fun c15 => ?_) (fun c15 => ?_)
        · replace hf := z_neg hf c15
          refine zt_aload_n hX 2 dX6_readsOne_58 rfl rfl ?_
          refine zt_bipush hX dX6_readsOne_59 (v := (45 : Int32)) (by decide) ?_
          refine zt_calliV hX hY (av := [.int (45 : Int32)]) (c_X6_sign hf) dX6_readsOne_61 rfl kw_1011 kw_1013 kw_58 kw_67 kw_1014 ⟨rfl, rfl⟩ hy_X6_sign ⟨by decide, by decide⟩ ⟨by decide, by decide⟩ (Nat.le_of_ble_eq_true rfl) (by decide) (zE_73 _ _) rfl rfl (fun r16 σ17 hf => ?_)
          refine zt_istore (L' := [(4, .int r16), (3, .int y12), (2, .int y5), (0, .ref (n0 + 73)), (1, .int a1)]) hX dX6_readsOne_64 (by decide) rfl ?_
          refine zt_iload hX 0 dX6_readsOne_66 rfl ?_
          refine zt_if_ne hX dX6_readsOne_68 (tgt := 87) (by decide) (fun c18 => ?_) (fun c18 => ?_)
          · replace hf := z_neg hf c18
            exact zt_sub [3, 4, 2, 1, 0] rfl (t_X6_readsOne_87 hX hY _ _ _ _ _ hf)
          · replace hf := z_pos hf c18
            refine zt_aload_n hX 3 dX6_readsOne_71 rfl rfl ?_
            refine zt_aload_n hX 3 dX6_readsOne_72 rfl rfl ?_
            refine zt_iload_n hX 2 dX6_readsOne_73 rfl rfl ?_
            refine zt_calliV hX hY (av := [.int y5]) (c_X6_whole hf) dX6_readsOne_74 rfl kw_778 kw_780 kw_31 kw_67 kw_781 ⟨rfl, rfl⟩ hy_X6_whole ⟨by decide, by decide⟩ ⟨by decide, by decide⟩ (Nat.le_of_ble_eq_true rfl) (by decide) (zE_73 _ _) rfl rfl (fun r25 σ26 hf => ?_)
            refine zt_iconst hX dX6_readsOne_77 (v := (1 : Int32)) (by decide) ?_
            refine zt_isub hX dX6_readsOne_78 ?_
            refine zt_calliV hX hY (av := [.int (r25 - (1 : Int32))]) (c_X6_readsNumber hf) dX6_readsOne_79 rfl kw_1003 kw_1005 kw_56 kw_67 kw_1006 ⟨rfl, rfl⟩ hy_X6_readsNumber ⟨by decide, by decide⟩ ⟨by decide, by decide⟩ (Nat.le_of_ble_eq_true rfl) (by decide) (zE_73 _ _) rfl rfl (fun r27 σ28 hf => ?_)
            refine zt_if_ne hX dX6_readsOne_82 (tgt := 87) (by decide) (fun c29 => ?_) (fun c29 => ?_)
            · replace hf := z_neg hf c29
              exact zt_sub [3, 4, 2, 1, 0] rfl (t_X6_readsOne_87 hX hY _ _ _ _ _ hf)
            · replace hf := z_pos hf c29
              refine zt_iconst hX dX6_readsOne_85 (v := (0 : Int32)) (by decide) ?_
              exact zt_zret hX hY dX6_readsOne_86 hf
        · replace hf := z_pos hf c15
          refine zt_iconst hX dX6_readsOne_56 (v := (0 : Int32)) (by decide) ?_
          exact zt_zret hX hY dX6_readsOne_57 hf
      · replace hf := z_pos hf c11
        refine zt_iconst hX dX6_readsOne_40 (v := (0 : Int32)) (by decide) ?_
        exact zt_zret hX hY dX6_readsOne_41 hf
  · replace hf := z_pos hf c4
    refine zt_iconst hX dX6_readsOne_15 (v := (0 : Int32)) (by decide) ?_
    exact zt_zret hX hY dX6_readsOne_16 hf

theorem dX6_readsAll_0 : decode cX6_readsAll 0 = .ok (.aload_n 0, 1) := by decide +kernel
theorem dX6_readsAll_1 : decode cX6_readsAll 1 = .ok (.iconst 0, 1) := by decide +kernel
theorem dX6_readsAll_2 : decode cX6_readsAll 2 = .ok (.putfield 174, 3) := by decide +kernel
theorem dX6_readsAll_5 : decode cX6_readsAll 5 = .ok (.aload_n 0, 1) := by decide +kernel
theorem dX6_readsAll_6 : decode cX6_readsAll 6 = .ok (.iconst 0, 1) := by decide +kernel
theorem dX6_readsAll_7 : decode cX6_readsAll 7 = .ok (.putfield 190, 3) := by decide +kernel
theorem dX6_readsAll_10 : decode cX6_readsAll 10 = .ok (.aload_n 0, 1) := by decide +kernel
theorem dX6_readsAll_11 : decode cX6_readsAll 11 = .ok (.iload_n 1, 1) := by decide +kernel
theorem dX6_readsAll_12 : decode cX6_readsAll 12 = .ok (.invokevirtual 193, 3) := by decide +kernel
theorem dX6_readsAll_15 : decode cX6_readsAll 15 = .ok (.istore_n 2, 1) := by decide +kernel
theorem dX6_readsAll_16 : decode cX6_readsAll 16 = .ok (.aload_n 0, 1) := by decide +kernel
theorem dX6_readsAll_17 : decode cX6_readsAll 17 = .ok (.invokevirtual 177, 3) := by decide +kernel
theorem dX6_readsAll_20 : decode cX6_readsAll 20 = .ok (.istore_n 3, 1) := by decide +kernel
theorem dX6_readsAll_21 : decode cX6_readsAll 21 = .ok (.iload_n 2, 1) := by decide +kernel
theorem dX6_readsAll_22 : decode cX6_readsAll 22 = .ok (.ifCond .eq 39, 3) := by decide +kernel
theorem dX6_readsAll_25 : decode cX6_readsAll 25 = .ok (.iload_n 3, 1) := by decide +kernel
theorem dX6_readsAll_26 : decode cX6_readsAll 26 = .ok (.iconst (-1), 1) := by decide +kernel
theorem dX6_readsAll_27 : decode cX6_readsAll 27 = .ok (.if_icmp .eq 34, 3) := by decide +kernel
theorem dX6_readsAll_30 : decode cX6_readsAll 30 = .ok (.aload_n 0, 1) := by decide +kernel
theorem dX6_readsAll_31 : decode cX6_readsAll 31 = .ok (.bipush 59, 2) := by decide +kernel
theorem dX6_readsAll_33 : decode cX6_readsAll 33 = .ok (.invokevirtual 187, 3) := by decide +kernel
theorem dX6_readsAll_36 : decode cX6_readsAll 36 = .ok (.ifCond .eq 15, 3) := by decide +kernel
theorem dX6_readsAll_39 : decode cX6_readsAll 39 = .ok (.aload_n 0, 1) := by decide +kernel
theorem dX6_readsAll_40 : decode cX6_readsAll 40 = .ok (.iload_n 1, 1) := by decide +kernel
theorem dX6_readsAll_41 : decode cX6_readsAll 41 = .ok (.invokevirtual 193, 3) := by decide +kernel
theorem dX6_readsAll_44 : decode cX6_readsAll 44 = .ok (.ifCond .eq 7, 3) := by decide +kernel
theorem dX6_readsAll_47 : decode cX6_readsAll 47 = .ok (.iconst 1, 1) := by decide +kernel
theorem dX6_readsAll_48 : decode cX6_readsAll 48 = .ok (.goto 4, 3) := by decide +kernel
theorem dX6_readsAll_51 : decode cX6_readsAll 51 = .ok (.iconst 0, 1) := by decide +kernel
theorem dX6_readsAll_52 : decode cX6_readsAll 52 = .ok (.istore_n 2, 1) := by decide +kernel
theorem dX6_readsAll_53 : decode cX6_readsAll 53 = .ok (.aload_n 0, 1) := by decide +kernel
theorem dX6_readsAll_54 : decode cX6_readsAll 54 = .ok (.invokevirtual 177, 3) := by decide +kernel
theorem dX6_readsAll_57 : decode cX6_readsAll 57 = .ok (.istore_n 3, 1) := by decide +kernel
theorem dX6_readsAll_58 : decode cX6_readsAll 58 = .ok (.goto (-37), 3) := by decide +kernel
theorem dX6_readsAll_61 : decode cX6_readsAll 61 = .ok (.iload_n 2, 1) := by decide +kernel
theorem dX6_readsAll_62 : decode cX6_readsAll 62 = .ok (.ireturn, 1) := by decide +kernel
abbrev rm_X6_readsAll : Room := { frames := 3, cells := 0, slots := 0, locals := 70 }
theorem hy_X6_readsAll : yX6_readsAll.cls ≠ "java/lang/invoke/MethodHandle" ∧ yX6_readsAll.cls ≠ "java/lang/invoke/VarHandle" ∧ (parseMethodDescriptor yX6_readsAll.desc).map (fun d => d.parameters.length) = some 1 := by decide +kernel
def w_X6_readsAll_52 (k21 : Int32 → Int32 → Int32 → z_S → Prop) (Q : Int32 → z_S → Prop) (x1 : Int32) (s0 : Int32) (σ : z_S) : Prop :=
  w_X6_here σ (fun r12 σ13 => k21 x1 s0 r12 σ13)
def w_X6_readsAll_51 (k21 : Int32 → Int32 → Int32 → z_S → Prop) (Q : Int32 → z_S → Prop) (x1 : Int32) (σ : z_S) : Prop :=
  w_X6_readsAll_52 k21 Q x1 (0 : Int32) σ
def wb_X6_readsAll_21  (Q : Int32 → z_S → Prop) (k21 : Int32 → Int32 → Int32 → z_S → Prop) (x1 : Int32) (x2 : Int32) (x3 : Int32) (σ : z_S) : Prop :=
  if x2 = 0 then ((x2 = 0 ∨ x2 = 1) ∧ Q x2 σ) else (if x3 = (-1 : Int32) then ((x2 = 0 ∨ x2 = 1) ∧ Q x2 σ) else (w_X6_sign (59 : Int32) σ (fun r9 σ10 => if r9 = 0 then (w_X6_readsAll_51 k21 Q x1 σ10) else (w_X6_readsOne x1 σ10 (fun r14 σ15 => if r14 = 0 then (w_X6_readsAll_51 k21 Q x1 σ15) else (w_X6_readsAll_52 k21 Q x1 (1 : Int32) σ15))))))
def w_X6_readsAll_21  (Q : Int32 → z_S → Prop) : Nat → Int32 → Int32 → Int32 → z_S → Prop
  | 0 => fun _ _ _ _ => False
  | n + 1 => wb_X6_readsAll_21  Q (w_X6_readsAll_21  Q n)
def w_X6_readsAll (a1 : Int32) (σ : z_S) (Q : Int32 → z_S → Prop) : Prop :=
  ∀ σ1 : z_S, σ1 = zs_i σ 73 9 (0 : Int32) → ∀ σ2 : z_S, σ2 = zs_i σ1 73 11 (0 : Int32) → w_X6_readsOne a1 σ2 (fun r3 σ4 => w_X6_here σ4 (fun r5 σ6 => w_X6_readsAll_21 Q 400 a1 r3 r5 σ6))
set_option maxHeartbeats 4000000 in
set_option maxRecDepth 100000 in
theorem t_X6_readsAll_52 {l : Launch} {D : va_G} {cI cJ cM cS : ClassId} {n0 : Nat} {p : Program} {e : Env} {s : State} {m : MethodId} {args : Array Value} {below : List Frame} {meth : Method} {c : Code} {k21 : Int32 → Int32 → Int32 → z_S → Prop} {Q : Int32 → z_S → Prop} (hX : z_X D cI cJ cM cS p s m args c cX6_readsAll 4 yX6_readsAll.cls) (hY : z_Y s meth (some .boolean)) (hk21 : ∀ (x1 : Int32) (x2 : Int32) (x3 : Int32) (σ : z_S), k21 x1 x2 x3 σ → z_t D cI cJ cM cS n0 p l e rm_X6_readsAll s m args below meth c 4 (MQ below (va_Qi Q (fun u t => z_Bq D cI cJ cM cS n0 u t) (z_Ab n0)) args s 0 0 (z_Ab n0)) 0 0 21 [(0, .ref (n0 + 73)), (1, .int x1), (2, .int x2), (3, .int x3)] [] σ) (x1 : Int32) (s0 : Int32) (σ : z_S) (hf : w_X6_readsAll_52 k21 Q x1 s0 σ) : z_t D cI cJ cM cS n0 p l e rm_X6_readsAll s m args below meth c 4 (MQ below (va_Qi Q (fun u t => z_Bq D cI cJ cM cS n0 u t) (z_Ab n0)) args s 0 0 (z_Ab n0)) 0 0 52 [(0, .ref (n0 + 73)), (1, .int x1)] [.int s0] σ := by
  unfold w_X6_readsAll_52 at hf
  refine zt_istore_n (L' := [(2, .int s0), (0, .ref (n0 + 73)), (1, .int x1)]) hX dX6_readsAll_52 rfl (by decide) rfl ?_
  refine zt_aload_n hX 1 dX6_readsAll_53 rfl rfl ?_
  refine zt_calliV hX hY (av := []) (c_X6_here hf) dX6_readsAll_54 rfl kw_1007 kw_1009 kw_57 kw_67 kw_1010 ⟨rfl, rfl⟩ hy_X6_here ⟨by decide, by decide⟩ ⟨by decide, by decide⟩ (Nat.le_of_ble_eq_true rfl) (by decide) (zE_73 _ _) rfl rfl (fun r12 σ13 hf => ?_)
  refine zt_istore_n (L' := [(3, .int r12), (2, .int s0), (0, .ref (n0 + 73)), (1, .int x1)]) hX dX6_readsAll_57 rfl (by decide) rfl ?_
  refine zt_goto hX dX6_readsAll_58 (tgt := 21) (by decide) ?_
  exact zt_sub [2, 3, 1, 0] rfl (hk21 _ _ _ _ hf)
set_option maxHeartbeats 4000000 in
set_option maxRecDepth 100000 in
theorem t_X6_readsAll_51 {l : Launch} {D : va_G} {cI cJ cM cS : ClassId} {n0 : Nat} {p : Program} {e : Env} {s : State} {m : MethodId} {args : Array Value} {below : List Frame} {meth : Method} {c : Code} {k21 : Int32 → Int32 → Int32 → z_S → Prop} {Q : Int32 → z_S → Prop} (hX : z_X D cI cJ cM cS p s m args c cX6_readsAll 4 yX6_readsAll.cls) (hY : z_Y s meth (some .boolean)) (hk21 : ∀ (x1 : Int32) (x2 : Int32) (x3 : Int32) (σ : z_S), k21 x1 x2 x3 σ → z_t D cI cJ cM cS n0 p l e rm_X6_readsAll s m args below meth c 4 (MQ below (va_Qi Q (fun u t => z_Bq D cI cJ cM cS n0 u t) (z_Ab n0)) args s 0 0 (z_Ab n0)) 0 0 21 [(0, .ref (n0 + 73)), (1, .int x1), (2, .int x2), (3, .int x3)] [] σ) (x1 : Int32) (σ : z_S) (hf : w_X6_readsAll_51 k21 Q x1 σ) : z_t D cI cJ cM cS n0 p l e rm_X6_readsAll s m args below meth c 4 (MQ below (va_Qi Q (fun u t => z_Bq D cI cJ cM cS n0 u t) (z_Ab n0)) args s 0 0 (z_Ab n0)) 0 0 51 [(0, .ref (n0 + 73)), (1, .int x1)] [] σ := by
  unfold w_X6_readsAll_51 at hf
  refine zt_iconst hX dX6_readsAll_51 (v := (0 : Int32)) (by decide) ?_
  exact zt_sub [0, 1] rfl (t_X6_readsAll_52 hX hY hk21 _ _ _ hf)
set_option maxHeartbeats 4000000 in
set_option maxRecDepth 100000 in
theorem t_X6_readsAll_21 {l : Launch} {D : va_G} {cI cJ cM cS : ClassId} {n0 : Nat} {p : Program} {e : Env} {s : State} {m : MethodId} {args : Array Value} {below : List Frame} {meth : Method} {c : Code}  {Q : Int32 → z_S → Prop} (hX : z_X D cI cJ cM cS p s m args c cX6_readsAll 4 yX6_readsAll.cls) (hY : z_Y s meth (some .boolean))  : ∀ (n : Nat) (x1 : Int32) (x2 : Int32) (x3 : Int32) (σ : z_S), w_X6_readsAll_21  Q n x1 x2 x3 σ → z_t D cI cJ cM cS n0 p l e rm_X6_readsAll s m args below meth c 4 (MQ below (va_Qi Q (fun u t => z_Bq D cI cJ cM cS n0 u t) (z_Ab n0)) args s 0 0 (z_Ab n0)) 0 0 21 [(0, .ref (n0 + 73)), (1, .int x1), (2, .int x2), (3, .int x3)] [] σ := by
  intro n
  induction n with
  | zero => intro _ _ _ _ hf; exact hf.elim
  | succ n ih21 =>
    intro x1 x2 x3 σ hf
    have hf : wb_X6_readsAll_21  Q (w_X6_readsAll_21  Q n) x1 x2 x3 σ := hf
    unfold wb_X6_readsAll_21 at hf
    refine zt_iload_n hX 2 dX6_readsAll_21 rfl rfl ?_
    refine zt_if_eq hX dX6_readsAll_22 (tgt := 61) (by decide) (fun c7 => ?_) (fun c7 => ?_)
    · replace hf := z_pos hf c7
      refine zt_iload_n hX 2 dX6_readsAll_61 rfl rfl ?_
      exact zt_zret hX hY dX6_readsAll_62 hf
    · replace hf := z_neg hf c7
      refine zt_iload_n hX 3 dX6_readsAll_25 rfl rfl ?_
      refine zt_iconst hX dX6_readsAll_26 (v := (-1 : Int32)) (by decide) ?_
      refine zt_icmp_eq hX dX6_readsAll_27 (tgt := 61) (by decide) (fun c8 => ?_) (fun c8 => ?_)
      · replace hf := z_pos hf c8
        refine zt_iload_n hX 2 dX6_readsAll_61 rfl rfl ?_
        exact zt_zret hX hY dX6_readsAll_62 hf
      · replace hf := z_neg hf c8
        refine zt_aload_n hX 0 dX6_readsAll_30 rfl rfl ?_
        refine zt_bipush hX dX6_readsAll_31 (v := (59 : Int32)) (by decide) ?_
        refine zt_calliV hX hY (av := [.int (59 : Int32)]) (c_X6_sign hf) dX6_readsAll_33 rfl kw_1011 kw_1013 kw_58 kw_67 kw_1014 ⟨rfl, rfl⟩ hy_X6_sign ⟨by decide, by decide⟩ ⟨by decide, by decide⟩ (Nat.le_of_ble_eq_true rfl) (by decide) (zE_73 _ _) rfl rfl (fun r9 σ10 hf => ?_)
        refine zt_if_eq hX dX6_readsAll_36 (tgt := 51) (by decide) (fun c11 => ?_) (fun c11 => ?_)
        · replace hf := z_pos hf c11
          exact zt_sub [0, 1] rfl (t_X6_readsAll_51 hX hY ih21 _ _ hf)
        · replace hf := z_neg hf c11
          refine zt_aload_n hX 0 dX6_readsAll_39 rfl rfl ?_
          refine zt_iload_n hX 1 dX6_readsAll_40 rfl rfl ?_
          refine zt_calliV hX hY (av := [.int x1]) (c_X6_readsOne hf) dX6_readsAll_41 rfl kw_999 kw_1001 kw_55 kw_67 kw_1002 ⟨rfl, rfl⟩ hy_X6_readsOne ⟨by decide, by decide⟩ ⟨by decide, by decide⟩ (Nat.le_of_ble_eq_true rfl) (by decide) (zE_73 _ _) rfl rfl (fun r14 σ15 hf => ?_)
          refine zt_if_eq hX dX6_readsAll_44 (tgt := 51) (by decide) (fun c16 => ?_) (fun c16 => ?_)
          · replace hf := z_pos hf c16
            exact zt_sub [0, 1] rfl (t_X6_readsAll_51 hX hY ih21 _ _ hf)
          · replace hf := z_neg hf c16
            refine zt_iconst hX dX6_readsAll_47 (v := (1 : Int32)) (by decide) ?_
            refine zt_goto hX dX6_readsAll_48 (tgt := 52) (by decide) ?_
            exact zt_sub [0, 1] rfl (t_X6_readsAll_52 hX hY ih21 _ _ _ hf)
set_option maxHeartbeats 4000000 in
set_option maxRecDepth 100000 in
theorem c_X6_readsAll {l : Launch} {D : va_G} {cI cJ cM cS : ClassId} {n0 : Nat} {a1 : Int32} {σ : z_S} {Q : Int32 → z_S → Prop} (hf : w_X6_readsAll a1 σ Q) : z_ci l D cI cJ cM cS n0 yX6_readsAll cX6_readsAll 4 .boolean rm_X6_readsAll 0 0 [.ref (n0 + 73), .int a1] σ Q := by
  refine z_ofi (by decide +kernel) (Nat.le_of_ble_eq_true rfl) (fun p e s m args below meth c hX hY => ?_)
  unfold w_X6_readsAll at hf
  refine zt_L (L' := [(0, .ref (n0 + 73)), (1, .int a1)]) rfl ?_
  refine zt_aload_n hX 0 dX6_readsAll_0 rfl rfl ?_
  refine zt_iconst hX dX6_readsAll_1 (v := (0 : Int32)) (by decide) ?_
  refine zt_puti_X6 hX (by decide) (zE_73 _ _) 9 (by decide) kw_663 rfl rfl (Nat.le_of_ble_eq_true rfl) rfl rfl dX6_readsAll_2 ?_
  refine zt_nms (fun σ1 d1 => ?_)
  replace hf := hf σ1 d1
  refine zt_aload_n hX 0 dX6_readsAll_5 rfl rfl ?_
  refine zt_iconst hX dX6_readsAll_6 (v := (0 : Int32)) (by decide) ?_
  refine zt_puti_X6 hX (by decide) (zE_73 _ _) 11 (by decide) kw_665 rfl rfl (Nat.le_of_ble_eq_true rfl) rfl rfl dX6_readsAll_7 ?_
  refine zt_nms (fun σ2 d2 => ?_)
  replace hf := hf σ2 d2
  refine zt_aload_n hX 0 dX6_readsAll_10 rfl rfl ?_
  refine zt_iload_n hX 1 dX6_readsAll_11 rfl rfl ?_
  refine zt_calliV hX hY (av := [.int a1]) (c_X6_readsOne hf) dX6_readsAll_12 rfl kw_999 kw_1001 kw_55 kw_67 kw_1002 ⟨rfl, rfl⟩ hy_X6_readsOne ⟨by decide, by decide⟩ ⟨by decide, by decide⟩ (Nat.le_of_ble_eq_true rfl) (by decide) (zE_73 _ _) rfl rfl (fun r3 σ4 hf => ?_)
  refine zt_istore_n (L' := [(2, .int r3), (0, .ref (n0 + 73)), (1, .int a1)]) hX dX6_readsAll_15 rfl (by decide) rfl ?_
  refine zt_aload_n hX 1 dX6_readsAll_16 rfl rfl ?_
  refine zt_calliV hX hY (av := []) (c_X6_here hf) dX6_readsAll_17 rfl kw_1007 kw_1009 kw_57 kw_67 kw_1010 ⟨rfl, rfl⟩ hy_X6_here ⟨by decide, by decide⟩ ⟨by decide, by decide⟩ (Nat.le_of_ble_eq_true rfl) (by decide) (zE_73 _ _) rfl rfl (fun r5 σ6 hf => ?_)
  refine zt_istore_n (L' := [(3, .int r5), (2, .int r3), (0, .ref (n0 + 73)), (1, .int a1)]) hX dX6_readsAll_20 rfl (by decide) rfl ?_
  exact zt_sub [2, 3, 1, 0] rfl (t_X6_readsAll_21 hX hY 400 _ _ _ _ hf)

theorem dX6_textFault_0 : decode cX6_textFault 0 = .ok (.aload_n 0, 1) := by decide +kernel
theorem dX6_textFault_1 : decode cX6_textFault 1 = .ok (.iconst 0, 1) := by decide +kernel
theorem dX6_textFault_2 : decode cX6_textFault 2 = .ok (.invokevirtual 197, 3) := by decide +kernel
theorem dX6_textFault_5 : decode cX6_textFault 5 = .ok (.ifCond .eq 8, 3) := by decide +kernel
theorem dX6_textFault_8 : decode cX6_textFault 8 = .ok (.ldc 48, 2) := by decide +kernel
theorem dX6_textFault_10 : decode cX6_textFault 10 = .ok (.goto 7, 3) := by decide +kernel
theorem dX6_textFault_13 : decode cX6_textFault 13 = .ok (.aload_n 0, 1) := by decide +kernel
theorem dX6_textFault_14 : decode cX6_textFault 14 = .ok (.getfield 174, 3) := by decide +kernel
theorem dX6_textFault_17 : decode cX6_textFault 17 = .ok (.ireturn, 1) := by decide +kernel
abbrev rm_X6_textFault : Room := { frames := 4, cells := 0, slots := 0, locals := 93 }
theorem hy_X6_textFault : yX6_textFault.cls ≠ "java/lang/invoke/MethodHandle" ∧ yX6_textFault.cls ≠ "java/lang/invoke/VarHandle" ∧ (parseMethodDescriptor yX6_textFault.desc).map (fun d => d.parameters.length) = some 0 := by decide +kernel
def w_X6_textFault  (σ : z_S) (Q : Int32 → z_S → Prop) : Prop :=
  w_X6_readsAll (0 : Int32) σ (fun r1 σ2 => if r1 = 0 then (Q (zg_i σ2 73 9) σ2) else (Q (-2000000000 : Int32) σ2))
set_option maxHeartbeats 4000000 in
set_option maxRecDepth 100000 in
theorem c_X6_textFault {l : Launch} {D : va_G} {cI cJ cM cS : ClassId} {n0 : Nat}  {σ : z_S} {Q : Int32 → z_S → Prop} (hf : w_X6_textFault  σ Q) : z_ci l D cI cJ cM cS n0 yX6_textFault cX6_textFault 1 .int rm_X6_textFault 0 0 [.ref (n0 + 73)] σ Q := by
  refine z_ofi (by decide +kernel) (Nat.le_of_ble_eq_true rfl) (fun p e s m args below meth c hX hY => ?_)
  unfold w_X6_textFault at hf
  refine zt_L (L' := [(0, .ref (n0 + 73))]) rfl ?_
  refine zt_aload_n hX 0 dX6_textFault_0 rfl rfl ?_
  refine zt_iconst hX dX6_textFault_1 (v := (0 : Int32)) (by decide) ?_
  refine zt_calliV hX hY (av := [.int (0 : Int32)]) (c_X6_readsAll hf) dX6_textFault_2 rfl kw_995 kw_997 kw_54 kw_67 kw_998 ⟨rfl, rfl⟩ hy_X6_readsAll ⟨by decide, by decide⟩ ⟨by decide, by decide⟩ (Nat.le_of_ble_eq_true rfl) (by decide) (zE_73 _ _) rfl rfl (fun r1 σ2 hf => ?_)
  refine zt_if_eq hX dX6_textFault_5 (tgt := 13) (by decide) (fun c3 => ?_) (fun c3 => ?_)
  · replace hf := z_pos hf c3
    refine zt_aload_n hX 0 dX6_textFault_13 rfl rfl ?_
    refine zt_get_X6 hX (by decide) (zE_73 _ _) 9 (by decide) kw_663 rfl rfl dX6_textFault_14 ?_
    exact zt_iret hX hY dX6_textFault_17 hf
  · replace hf := z_neg hf c3
    refine zt_ldc hX dX6_textFault_8 kw_715 ?_
    refine zt_goto hX dX6_textFault_10 (tgt := 17) (by decide) ?_
    exact zt_iret hX hY dX6_textFault_17 hf

theorem dX6_load_0 : decode cX6_load 0 = .ok (.aload_n 0, 1) := by decide +kernel
theorem dX6_load_1 : decode cX6_load 1 = .ok (.iconst 0, 1) := by decide +kernel
theorem dX6_load_2 : decode cX6_load 2 = .ok (.invokevirtual 197, 3) := by decide +kernel
theorem dX6_load_5 : decode cX6_load 5 = .ok (.ifCond .ne 6, 3) := by decide +kernel
theorem dX6_load_8 : decode cX6_load 8 = .ok (.ldc 164, 2) := by decide +kernel
theorem dX6_load_10 : decode cX6_load 10 = .ok (.ireturn, 1) := by decide +kernel
theorem dX6_load_11 : decode cX6_load 11 = .ok (.aload_n 0, 1) := by decide +kernel
theorem dX6_load_12 : decode cX6_load 12 = .ok (.invokevirtual 59, 3) := by decide +kernel
theorem dX6_load_15 : decode cX6_load 15 = .ok (.aload_n 0, 1) := by decide +kernel
theorem dX6_load_16 : decode cX6_load 16 = .ok (.iconst 1, 1) := by decide +kernel
theorem dX6_load_17 : decode cX6_load 17 = .ok (.invokevirtual 197, 3) := by decide +kernel
theorem dX6_load_20 : decode cX6_load 20 = .ok (.istore_n 1, 1) := by decide +kernel
theorem dX6_load_21 : decode cX6_load 21 = .ok (.aload_n 0, 1) := by decide +kernel
theorem dX6_load_22 : decode cX6_load 22 = .ok (.getfield 190, 3) := by decide +kernel
theorem dX6_load_25 : decode cX6_load 25 = .ok (.ireturn, 1) := by decide +kernel
abbrev rm_X6_load : Room := { frames := 4, cells := 0, slots := 0, locals := 93 }
theorem hy_X6_load : yX6_load.cls ≠ "java/lang/invoke/MethodHandle" ∧ yX6_load.cls ≠ "java/lang/invoke/VarHandle" ∧ (parseMethodDescriptor yX6_load.desc).map (fun d => d.parameters.length) = some 0 := by decide +kernel
def w_X6_load  (σ : z_S) (Q : Int32 → z_S → Prop) : Prop :=
  w_X6_readsAll (0 : Int32) σ (fun r1 σ2 => if r1 = 0 then (Q (-2000000003 : Int32) σ2) else (w_X6_saves σ2 (fun σ5 => w_X6_readsAll (1 : Int32) σ5 (fun r6 σ7 => Q (zg_i σ7 73 11) σ7))))
set_option maxHeartbeats 4000000 in
set_option maxRecDepth 100000 in
theorem c_X6_load {l : Launch} {D : va_G} {cI cJ cM cS : ClassId} {n0 : Nat}  {σ : z_S} {Q : Int32 → z_S → Prop} (hf : w_X6_load  σ Q) : z_ci l D cI cJ cM cS n0 yX6_load cX6_load 2 .int rm_X6_load 0 0 [.ref (n0 + 73)] σ Q := by
  refine z_ofi (by decide +kernel) (Nat.le_of_ble_eq_true rfl) (fun p e s m args below meth c hX hY => ?_)
  unfold w_X6_load at hf
  refine zt_L (L' := [(0, .ref (n0 + 73))]) rfl ?_
  refine zt_aload_n hX 0 dX6_load_0 rfl rfl ?_
  refine zt_iconst hX dX6_load_1 (v := (0 : Int32)) (by decide) ?_
  refine zt_calliV hX hY (av := [.int (0 : Int32)]) (c_X6_readsAll hf) dX6_load_2 rfl kw_995 kw_997 kw_54 kw_67 kw_998 ⟨rfl, rfl⟩ hy_X6_readsAll ⟨by decide, by decide⟩ ⟨by decide, by decide⟩ (Nat.le_of_ble_eq_true rfl) (by decide) (zE_73 _ _) rfl rfl (fun r1 σ2 hf => ?_)
  refine zt_if_ne hX dX6_load_5 (tgt := 11) (by decide) (fun c3 => ?_) (fun c3 => ?_)
  · replace hf := z_neg hf c3
    refine zt_aload_n hX 0 dX6_load_11 rfl rfl ?_
    refine zt_callvV hX hY (av := []) (c_X6_saves hf) dX6_load_12 rfl kw_707 kw_709 kw_21 kw_67 kw_710 ⟨rfl, rfl⟩ hy_X6_saves ⟨by decide, by decide⟩ ⟨by decide, by decide⟩ (Nat.le_of_ble_eq_true rfl) (by decide) (zE_73 _ _) rfl rfl (fun σ5 hf => ?_)
    refine zt_aload_n hX 0 dX6_load_15 rfl rfl ?_
    refine zt_iconst hX dX6_load_16 (v := (1 : Int32)) (by decide) ?_
    refine zt_calliV hX hY (av := [.int (1 : Int32)]) (c_X6_readsAll hf) dX6_load_17 rfl kw_995 kw_997 kw_54 kw_67 kw_998 ⟨rfl, rfl⟩ hy_X6_readsAll ⟨by decide, by decide⟩ ⟨by decide, by decide⟩ (Nat.le_of_ble_eq_true rfl) (by decide) (zE_73 _ _) rfl rfl (fun r6 σ7 hf => ?_)
    refine zt_istore_n (L' := [(1, .int r6), (0, .ref (n0 + 73))]) hX dX6_load_20 rfl (by decide) rfl ?_
    refine zt_aload_n hX 1 dX6_load_21 rfl rfl ?_
    refine zt_get_X6 hX (by decide) (zE_73 _ _) 11 (by decide) kw_665 rfl rfl dX6_load_22 ?_
    exact zt_iret hX hY dX6_load_25 hf
  · replace hf := z_pos hf c3
    refine zt_ldc hX dX6_load_8 kw_954 ?_
    exact zt_iret hX hY dX6_load_10 hf

theorem dX6_note_0 : decode cX6_note 0 = .ok (.aload_n 0, 1) := by decide +kernel
theorem dX6_note_1 : decode cX6_note 1 = .ok (.ldc2_w 200, 3) := by decide +kernel
theorem dX6_note_4 : decode cX6_note 4 = .ok (.aload_n 0, 1) := by decide +kernel
theorem dX6_note_5 : decode cX6_note 5 = .ok (.getfield 202, 3) := by decide +kernel
theorem dX6_note_8 : decode cX6_note 8 = .ok (.lmul, 1) := by decide +kernel
theorem dX6_note_9 : decode cX6_note 9 = .ok (.iload_n 1, 1) := by decide +kernel
theorem dX6_note_10 : decode cX6_note 10 = .ok (.i2l, 1) := by decide +kernel
theorem dX6_note_11 : decode cX6_note 11 = .ok (.ladd, 1) := by decide +kernel
theorem dX6_note_12 : decode cX6_note 12 = .ok (.putfield 202, 3) := by decide +kernel
theorem dX6_note_15 : decode cX6_note 15 = .ok (.return_, 1) := by decide +kernel
abbrev rm_X6_note : Room := { frames := 0, cells := 0, slots := 0, locals := 0 }
theorem hy_X6_note : yX6_note.cls ≠ "java/lang/invoke/MethodHandle" ∧ yX6_note.cls ≠ "java/lang/invoke/VarHandle" ∧ (parseMethodDescriptor yX6_note.desc).map (fun d => d.parameters.length) = some 1 := by decide +kernel
def w_X6_note (a1 : Int32) (σ : z_S) (Q : z_S → Prop) : Prop :=
  ∀ σ1 : z_S, σ1 = zs_l σ 73 12 (((31 : Int64) * (zg_l σ 73 12)) + a1.toInt64) → Q σ1
set_option maxHeartbeats 4000000 in
set_option maxRecDepth 100000 in
theorem c_X6_note {l : Launch} {D : va_G} {cI cJ cM cS : ClassId} {n0 : Nat} {a1 : Int32} {σ : z_S} {Q : z_S → Prop} (hf : w_X6_note a1 σ Q) : z_cv l D cI cJ cM cS n0 yX6_note cX6_note 2 rm_X6_note 0 0 [.ref (n0 + 73), .int a1] σ Q := by
  refine z_ofv (by decide +kernel) (Nat.le_of_ble_eq_true rfl) (fun p e s m args below meth c hX hY => ?_)
  unfold w_X6_note at hf
  refine zt_L (L' := [(0, .ref (n0 + 73)), (1, .int a1)]) rfl ?_
  refine zt_aload_n hX 0 dX6_note_0 rfl rfl ?_
  refine zt_ldc2 hX dX6_note_1 kw_1028 ?_
  refine zt_aload_n hX 0 dX6_note_4 rfl rfl ?_
  refine zt_get_X6 hX (by decide) (zE_73 _ _) 12 (by decide) kw_666 rfl rfl dX6_note_5 ?_
  refine zt_lmul hX dX6_note_8 ?_
  refine zt_iload_n hX 1 dX6_note_9 rfl rfl ?_
  refine zt_i2l hX dX6_note_10 ?_
  refine zt_ladd hX dX6_note_11 ?_
  refine zt_putl_X6 hX (by decide) (zE_73 _ _) 12 (by decide) kw_666 rfl rfl (Nat.le_of_ble_eq_true rfl) rfl rfl dX6_note_12 ?_
  refine zt_nms (fun σ1 d1 => ?_)
  replace hf := hf σ1 d1
  exact zt_vret hX hY dX6_note_15 hf

theorem dX6_digest_0 : decode cX6_digest 0 = .ok (.aload_n 0, 1) := by decide +kernel
theorem dX6_digest_1 : decode cX6_digest 1 = .ok (.ldc2_w 206, 3) := by decide +kernel
theorem dX6_digest_4 : decode cX6_digest 4 = .ok (.putfield 202, 3) := by decide +kernel
theorem dX6_digest_7 : decode cX6_digest 7 = .ok (.aload_n 0, 1) := by decide +kernel
theorem dX6_digest_8 : decode cX6_digest 8 = .ok (.aload_n 0, 1) := by decide +kernel
theorem dX6_digest_9 : decode cX6_digest 9 = .ok (.getfield 7, 3) := by decide +kernel
theorem dX6_digest_12 : decode cX6_digest 12 = .ok (.iconst 0, 1) := by decide +kernel
theorem dX6_digest_13 : decode cX6_digest 13 = .ok (.iaload, 1) := by decide +kernel
theorem dX6_digest_14 : decode cX6_digest 14 = .ok (.invokevirtual 208, 3) := by decide +kernel
theorem dX6_digest_17 : decode cX6_digest 17 = .ok (.iconst 0, 1) := by decide +kernel
theorem dX6_digest_18 : decode cX6_digest 18 = .ok (.istore_n 1, 1) := by decide +kernel
theorem dX6_digest_19 : decode cX6_digest 19 = .ok (.iload_n 1, 1) := by decide +kernel
theorem dX6_digest_20 : decode cX6_digest 20 = .ok (.bipush 18, 2) := by decide +kernel
theorem dX6_digest_22 : decode cX6_digest 22 = .ok (.aload_n 0, 1) := by decide +kernel
theorem dX6_digest_23 : decode cX6_digest 23 = .ok (.getfield 7, 3) := by decide +kernel
theorem dX6_digest_26 : decode cX6_digest 26 = .ok (.iconst 0, 1) := by decide +kernel
theorem dX6_digest_27 : decode cX6_digest 27 = .ok (.iaload, 1) := by decide +kernel
theorem dX6_digest_28 : decode cX6_digest 28 = .ok (.imul, 1) := by decide +kernel
theorem dX6_digest_29 : decode cX6_digest 29 = .ok (.if_icmp .ge 21, 3) := by decide +kernel
theorem dX6_digest_32 : decode cX6_digest 32 = .ok (.aload_n 0, 1) := by decide +kernel
theorem dX6_digest_33 : decode cX6_digest 33 = .ok (.aload_n 0, 1) := by decide +kernel
theorem dX6_digest_34 : decode cX6_digest 34 = .ok (.getfield 7, 3) := by decide +kernel
theorem dX6_digest_37 : decode cX6_digest 37 = .ok (.iconst 4, 1) := by decide +kernel
theorem dX6_digest_38 : decode cX6_digest 38 = .ok (.iload_n 1, 1) := by decide +kernel
theorem dX6_digest_39 : decode cX6_digest 39 = .ok (.iadd, 1) := by decide +kernel
theorem dX6_digest_40 : decode cX6_digest 40 = .ok (.iaload, 1) := by decide +kernel
theorem dX6_digest_41 : decode cX6_digest 41 = .ok (.invokevirtual 208, 3) := by decide +kernel
theorem dX6_digest_44 : decode cX6_digest 44 = .ok (.iinc 1 1, 3) := by decide +kernel
theorem dX6_digest_47 : decode cX6_digest 47 = .ok (.goto (-28), 3) := by decide +kernel
theorem dX6_digest_50 : decode cX6_digest 50 = .ok (.aload_n 0, 1) := by decide +kernel
theorem dX6_digest_51 : decode cX6_digest 51 = .ok (.aload_n 0, 1) := by decide +kernel
theorem dX6_digest_52 : decode cX6_digest 52 = .ok (.getfield 7, 3) := by decide +kernel
theorem dX6_digest_55 : decode cX6_digest 55 = .ok (.iconst 1, 1) := by decide +kernel
theorem dX6_digest_56 : decode cX6_digest 56 = .ok (.iaload, 1) := by decide +kernel
theorem dX6_digest_57 : decode cX6_digest 57 = .ok (.invokevirtual 208, 3) := by decide +kernel
theorem dX6_digest_60 : decode cX6_digest 60 = .ok (.aload_n 0, 1) := by decide +kernel
theorem dX6_digest_61 : decode cX6_digest 61 = .ok (.aload_n 0, 1) := by decide +kernel
theorem dX6_digest_62 : decode cX6_digest 62 = .ok (.getfield 7, 3) := by decide +kernel
theorem dX6_digest_65 : decode cX6_digest 65 = .ok (.iconst 2, 1) := by decide +kernel
theorem dX6_digest_66 : decode cX6_digest 66 = .ok (.iaload, 1) := by decide +kernel
theorem dX6_digest_67 : decode cX6_digest 67 = .ok (.invokevirtual 208, 3) := by decide +kernel
theorem dX6_digest_70 : decode cX6_digest 70 = .ok (.aload_n 0, 1) := by decide +kernel
theorem dX6_digest_71 : decode cX6_digest 71 = .ok (.aload_n 0, 1) := by decide +kernel
theorem dX6_digest_72 : decode cX6_digest 72 = .ok (.getfield 7, 3) := by decide +kernel
theorem dX6_digest_75 : decode cX6_digest 75 = .ok (.iconst 3, 1) := by decide +kernel
theorem dX6_digest_76 : decode cX6_digest 76 = .ok (.iaload, 1) := by decide +kernel
theorem dX6_digest_77 : decode cX6_digest 77 = .ok (.invokevirtual 208, 3) := by decide +kernel
theorem dX6_digest_80 : decode cX6_digest 80 = .ok (.iconst 0, 1) := by decide +kernel
theorem dX6_digest_81 : decode cX6_digest 81 = .ok (.istore_n 1, 1) := by decide +kernel
theorem dX6_digest_82 : decode cX6_digest 82 = .ok (.iload_n 1, 1) := by decide +kernel
theorem dX6_digest_83 : decode cX6_digest 83 = .ok (.bipush 10, 2) := by decide +kernel
theorem dX6_digest_85 : decode cX6_digest 85 = .ok (.aload_n 0, 1) := by decide +kernel
theorem dX6_digest_86 : decode cX6_digest 86 = .ok (.getfield 7, 3) := by decide +kernel
theorem dX6_digest_89 : decode cX6_digest 89 = .ok (.iconst 3, 1) := by decide +kernel
theorem dX6_digest_90 : decode cX6_digest 90 = .ok (.iaload, 1) := by decide +kernel
theorem dX6_digest_91 : decode cX6_digest 91 = .ok (.imul, 1) := by decide +kernel
theorem dX6_digest_92 : decode cX6_digest 92 = .ok (.if_icmp .ge 34, 3) := by decide +kernel
theorem dX6_digest_95 : decode cX6_digest 95 = .ok (.aload_n 0, 1) := by decide +kernel
theorem dX6_digest_96 : decode cX6_digest 96 = .ok (.iload_n 1, 1) := by decide +kernel
theorem dX6_digest_97 : decode cX6_digest 97 = .ok (.bipush 10, 2) := by decide +kernel
theorem dX6_digest_99 : decode cX6_digest 99 = .ok (.irem, 1) := by decide +kernel
theorem dX6_digest_100 : decode cX6_digest 100 = .ok (.invokevirtual 53, 3) := by decide +kernel
theorem dX6_digest_103 : decode cX6_digest 103 = .ok (.ifCond .eq 17, 3) := by decide +kernel
theorem dX6_digest_106 : decode cX6_digest 106 = .ok (.aload_n 0, 1) := by decide +kernel
theorem dX6_digest_107 : decode cX6_digest 107 = .ok (.aload_n 0, 1) := by decide +kernel
theorem dX6_digest_108 : decode cX6_digest 108 = .ok (.getfield 7, 3) := by decide +kernel
theorem dX6_digest_111 : decode cX6_digest 111 = .ok (.sipush 184, 3) := by decide +kernel
theorem dX6_digest_114 : decode cX6_digest 114 = .ok (.iload_n 1, 1) := by decide +kernel
theorem dX6_digest_115 : decode cX6_digest 115 = .ok (.iadd, 1) := by decide +kernel
theorem dX6_digest_116 : decode cX6_digest 116 = .ok (.iaload, 1) := by decide +kernel
theorem dX6_digest_117 : decode cX6_digest 117 = .ok (.invokevirtual 208, 3) := by decide +kernel
theorem dX6_digest_120 : decode cX6_digest 120 = .ok (.iinc 1 1, 3) := by decide +kernel
theorem dX6_digest_123 : decode cX6_digest 123 = .ok (.goto (-41), 3) := by decide +kernel
theorem dX6_digest_126 : decode cX6_digest 126 = .ok (.aload_n 0, 1) := by decide +kernel
theorem dX6_digest_127 : decode cX6_digest 127 = .ok (.getfield 202, 3) := by decide +kernel
theorem dX6_digest_130 : decode cX6_digest 130 = .ok (.lreturn, 1) := by decide +kernel
abbrev rm_X6_digest : Room := { frames := 2, cells := 0, slots := 0, locals := 43 }
theorem hy_X6_digest : yX6_digest.cls ≠ "java/lang/invoke/MethodHandle" ∧ yX6_digest.cls ≠ "java/lang/invoke/VarHandle" ∧ (parseMethodDescriptor yX6_digest.desc).map (fun d => d.parameters.length) = some 0 := by decide +kernel
def w_X6_digest_120 (k82 : Int32 → z_S → Prop) (Q : Int64 → z_S → Prop) (x1 : Int32) (σ : z_S) : Prop :=
  ∀ y22 : Int32, y22 = (x1 + (1 : Int32)) → k82 y22 σ
def wb_X6_digest_82  (Q : Int64 → z_S → Prop) (k82 : Int32 → z_S → Prop) (x1 : Int32) (σ : z_S) : Prop :=
  vp_in (3 : Int32) 1584 ∧ if ((10 : Int32) * (zg_i σ 74 (3 : Int32).toNatClampNeg)) ≤ x1 then (Q (zg_l σ 73 12) σ) else (¬ (10 : Int32) = 0 ∧ w_X6_isMeter (x1 - x1 / (10 : Int32) * (10 : Int32)) σ (fun r19 σ20 => if r19 = 0 then (w_X6_digest_120 k82 Q x1 σ20) else (vp_in ((184 : Int32) + x1) 1584 ∧ w_X6_note (zg_i σ20 74 ((184 : Int32) + x1).toNatClampNeg) σ20 (fun σ25 => w_X6_digest_120 k82 Q x1 σ25))))
def w_X6_digest_82  (Q : Int64 → z_S → Prop) : Nat → Int32 → z_S → Prop
  | 0 => fun _ _ => False
  | n + 1 => wb_X6_digest_82  Q (w_X6_digest_82  Q n)
def wb_X6_digest_19  (Q : Int64 → z_S → Prop) (k19 : Int32 → z_S → Prop) (x1 : Int32) (σ : z_S) : Prop :=
  vp_in (0 : Int32) 1584 ∧ if ((18 : Int32) * (zg_i σ 74 (0 : Int32).toNatClampNeg)) ≤ x1 then (vp_in (1 : Int32) 1584 ∧ w_X6_note (zg_i σ 74 (1 : Int32).toNatClampNeg) σ (fun σ9 => vp_in (2 : Int32) 1584 ∧ w_X6_note (zg_i σ9 74 (2 : Int32).toNatClampNeg) σ9 (fun σ12 => vp_in (3 : Int32) 1584 ∧ w_X6_note (zg_i σ12 74 (3 : Int32).toNatClampNeg) σ12 (fun σ15 => w_X6_digest_82 Q 400 (0 : Int32) σ15)))) else (vp_in ((4 : Int32) + x1) 1584 ∧ w_X6_note (zg_i σ 74 ((4 : Int32) + x1).toNatClampNeg) σ (fun σ28 => ∀ y29 : Int32, y29 = (x1 + (1 : Int32)) → k19 y29 σ28))
def w_X6_digest_19  (Q : Int64 → z_S → Prop) : Nat → Int32 → z_S → Prop
  | 0 => fun _ _ => False
  | n + 1 => wb_X6_digest_19  Q (w_X6_digest_19  Q n)
def w_X6_digest  (σ : z_S) (Q : Int64 → z_S → Prop) : Prop :=
  ∀ σ1 : z_S, σ1 = zs_l σ 73 12 (17 : Int64) → vp_in (0 : Int32) 1584 ∧ w_X6_note (zg_i σ1 74 (0 : Int32).toNatClampNeg) σ1 (fun σ4 => w_X6_digest_19 Q 400 (0 : Int32) σ4)
set_option maxHeartbeats 4000000 in
set_option maxRecDepth 100000 in
theorem t_X6_digest_120 {l : Launch} {D : va_G} {cI cJ cM cS : ClassId} {n0 : Nat} {p : Program} {e : Env} {s : State} {m : MethodId} {args : Array Value} {below : List Frame} {meth : Method} {c : Code} {k82 : Int32 → z_S → Prop} {Q : Int64 → z_S → Prop} (hX : z_X D cI cJ cM cS p s m args c cX6_digest 2 yX6_digest.cls) (hY : z_Y s meth (some .long)) (hk82 : ∀ (x1 : Int32) (σ : z_S), k82 x1 σ → z_t D cI cJ cM cS n0 p l e rm_X6_digest s m args below meth c 2 (MQ below (va_Ql Q (fun u t => z_Bq D cI cJ cM cS n0 u t) (z_Ab n0)) args s 0 0 (z_Ab n0)) 0 0 82 [(0, .ref (n0 + 73)), (1, .int x1)] [] σ) (x1 : Int32) (σ : z_S) (hf : w_X6_digest_120 k82 Q x1 σ) : z_t D cI cJ cM cS n0 p l e rm_X6_digest s m args below meth c 2 (MQ below (va_Ql Q (fun u t => z_Bq D cI cJ cM cS n0 u t) (z_Ab n0)) args s 0 0 (z_Ab n0)) 0 0 120 [(0, .ref (n0 + 73)), (1, .int x1)] [] σ := by
  unfold w_X6_digest_120 at hf
  obtain ⟨y22, e22⟩ : ∃ y : Int32, y = (x1 + (1 : Int32)) := ⟨_, rfl⟩
  replace hf := hf y22 e22
  refine zt_iinc (L' := [(1, .int y22), (0, .ref (n0 + 73))]) hX 1 dX6_digest_120 rfl (v := y22) (by rw [e22]; rfl) (by decide) rfl ?_
  refine zt_goto hX dX6_digest_123 (tgt := 82) (by decide) ?_
  exact zt_sub [1, 0] rfl (hk82 _ _ hf)
set_option maxHeartbeats 4000000 in
set_option maxRecDepth 100000 in
theorem t_X6_digest_82 {l : Launch} {D : va_G} {cI cJ cM cS : ClassId} {n0 : Nat} {p : Program} {e : Env} {s : State} {m : MethodId} {args : Array Value} {below : List Frame} {meth : Method} {c : Code}  {Q : Int64 → z_S → Prop} (hX : z_X D cI cJ cM cS p s m args c cX6_digest 2 yX6_digest.cls) (hY : z_Y s meth (some .long))  : ∀ (n : Nat) (x1 : Int32) (σ : z_S), w_X6_digest_82  Q n x1 σ → z_t D cI cJ cM cS n0 p l e rm_X6_digest s m args below meth c 2 (MQ below (va_Ql Q (fun u t => z_Bq D cI cJ cM cS n0 u t) (z_Ab n0)) args s 0 0 (z_Ab n0)) 0 0 82 [(0, .ref (n0 + 73)), (1, .int x1)] [] σ := by
  intro n
  induction n with
  | zero => intro _ _ hf; exact hf.elim
  | succ n ih82 =>
    intro x1 σ hf
    have hf : wb_X6_digest_82  Q (w_X6_digest_82  Q n) x1 σ := hf
    unfold wb_X6_digest_82 at hf
    refine zt_iload_n hX 1 dX6_digest_82 rfl rfl ?_
    refine zt_bipush hX dX6_digest_83 (v := (10 : Int32)) (by decide) ?_
    refine zt_aload_n hX 0 dX6_digest_85 rfl rfl ?_
    refine zt_get_X6 hX (by decide) (zE_73 _ _) 0 (by decide) kw_654 rfl rfl dX6_digest_86 ?_
    refine zt_iconst hX dX6_digest_89 (v := (3 : Int32)) (by decide) ?_
    obtain ⟨h16, hf⟩ := hf
    refine zt_iaload hX dX6_digest_90 (by decide) rfl h16 ?_
    refine zt_imul hX dX6_digest_91 ?_
    refine zt_icmp_ge hX dX6_digest_92 (tgt := 126) (by decide) (fun c17 => ?_) (fun c17 => ?_)
    · replace hf := z_pos hf c17
      refine zt_aload_n hX 0 dX6_digest_126 rfl rfl ?_
      refine zt_get_X6 hX (by decide) (zE_73 _ _) 12 (by decide) kw_666 rfl rfl dX6_digest_127 ?_
      exact zt_lret hX hY dX6_digest_130 hf
    · replace hf := z_neg hf c17
      refine zt_aload_n hX 0 dX6_digest_95 rfl rfl ?_
      refine zt_iload_n hX 1 dX6_digest_96 rfl rfl ?_
      refine zt_bipush hX dX6_digest_97 (v := (10 : Int32)) (by decide) ?_
      obtain ⟨h18, hf⟩ := hf
      refine zt_irem hX dX6_digest_99 h18 ?_
      refine zt_calliV hX hY (av := [.int (x1 - x1 / (10 : Int32) * (10 : Int32))]) (c_X6_isMeter hf) dX6_digest_100 rfl kw_698 kw_700 kw_20 kw_67 kw_701 ⟨rfl, rfl⟩ hy_X6_isMeter ⟨by decide, by decide⟩ ⟨by decide, by decide⟩ (Nat.le_of_ble_eq_true rfl) (by decide) (zE_73 _ _) rfl rfl (fun r19 σ20 hf => ?_)
      refine zt_if_eq hX dX6_digest_103 (tgt := 120) (by decide) (fun c21 => ?_) (fun c21 => ?_)
      · replace hf := z_pos hf c21
        exact zt_sub [0, 1] rfl (t_X6_digest_120 hX hY ih82 _ _ hf)
      · replace hf := z_neg hf c21
        refine zt_aload_n hX 0 dX6_digest_106 rfl rfl ?_
        refine zt_aload_n hX 0 dX6_digest_107 rfl rfl ?_
        refine zt_get_X6 hX (by decide) (zE_73 _ _) 0 (by decide) kw_654 rfl rfl dX6_digest_108 ?_
        refine zt_sipush hX dX6_digest_111 (v := (184 : Int32)) (by decide) ?_
        refine zt_iload_n hX 1 dX6_digest_114 rfl rfl ?_
        refine zt_iadd hX dX6_digest_115 ?_
        obtain ⟨h23, hf⟩ := hf
        refine zt_iaload hX dX6_digest_116 (by decide) rfl h23 ?_
        refine zt_callvV hX hY (av := [.int (zg_i σ20 74 ((184 : Int32) + x1).toNatClampNeg)]) (c_X6_note hf) dX6_digest_117 rfl kw_1024 kw_1026 kw_59 kw_67 kw_1027 ⟨rfl, rfl⟩ hy_X6_note ⟨by decide, by decide⟩ ⟨by decide, by decide⟩ (Nat.le_of_ble_eq_true rfl) (by decide) (zE_73 _ _) rfl rfl (fun σ25 hf => ?_)
        exact zt_sub [0, 1] rfl (t_X6_digest_120 hX hY ih82 _ _ hf)
set_option maxHeartbeats 4000000 in
set_option maxRecDepth 100000 in
theorem t_X6_digest_19 {l : Launch} {D : va_G} {cI cJ cM cS : ClassId} {n0 : Nat} {p : Program} {e : Env} {s : State} {m : MethodId} {args : Array Value} {below : List Frame} {meth : Method} {c : Code}  {Q : Int64 → z_S → Prop} (hX : z_X D cI cJ cM cS p s m args c cX6_digest 2 yX6_digest.cls) (hY : z_Y s meth (some .long))  : ∀ (n : Nat) (x1 : Int32) (σ : z_S), w_X6_digest_19  Q n x1 σ → z_t D cI cJ cM cS n0 p l e rm_X6_digest s m args below meth c 2 (MQ below (va_Ql Q (fun u t => z_Bq D cI cJ cM cS n0 u t) (z_Ab n0)) args s 0 0 (z_Ab n0)) 0 0 19 [(0, .ref (n0 + 73)), (1, .int x1)] [] σ := by
  intro n
  induction n with
  | zero => intro _ _ hf; exact hf.elim
  | succ n ih19 =>
    intro x1 σ hf
    have hf : wb_X6_digest_19  Q (w_X6_digest_19  Q n) x1 σ := hf
    unfold wb_X6_digest_19 at hf
    refine zt_iload_n hX 1 dX6_digest_19 rfl rfl ?_
    refine zt_bipush hX dX6_digest_20 (v := (18 : Int32)) (by decide) ?_
    refine zt_aload_n hX 0 dX6_digest_22 rfl rfl ?_
    refine zt_get_X6 hX (by decide) (zE_73 _ _) 0 (by decide) kw_654 rfl rfl dX6_digest_23 ?_
    refine zt_iconst hX dX6_digest_26 (v := (0 : Int32)) (by decide) ?_
    obtain ⟨h5, hf⟩ := hf
    refine zt_iaload hX dX6_digest_27 (by decide) rfl h5 ?_
    refine zt_imul hX dX6_digest_28 ?_
    refine zt_icmp_ge hX dX6_digest_29 (tgt := 50) (by decide) (fun c6 => ?_) (fun c6 => ?_)
    · replace hf := z_pos hf c6
      refine zt_aload_n hX 0 dX6_digest_50 rfl rfl ?_
      refine zt_aload_n hX 0 dX6_digest_51 rfl rfl ?_
      refine zt_get_X6 hX (by decide) (zE_73 _ _) 0 (by decide) kw_654 rfl rfl dX6_digest_52 ?_
      refine zt_iconst hX dX6_digest_55 (v := (1 : Int32)) (by decide) ?_
      obtain ⟨h7, hf⟩ := hf
      refine zt_iaload hX dX6_digest_56 (by decide) rfl h7 ?_
      refine zt_callvV hX hY (av := [.int (zg_i σ 74 (1 : Int32).toNatClampNeg)]) (c_X6_note hf) dX6_digest_57 rfl kw_1024 kw_1026 kw_59 kw_67 kw_1027 ⟨rfl, rfl⟩ hy_X6_note ⟨by decide, by decide⟩ ⟨by decide, by decide⟩ (Nat.le_of_ble_eq_true rfl) (by decide) (zE_73 _ _) rfl rfl (fun σ9 hf => ?_)
      refine zt_aload_n hX 0 dX6_digest_60 rfl rfl ?_
      refine zt_aload_n hX 0 dX6_digest_61 rfl rfl ?_
      refine zt_get_X6 hX (by decide) (zE_73 _ _) 0 (by decide) kw_654 rfl rfl dX6_digest_62 ?_
      refine zt_iconst hX dX6_digest_65 (v := (2 : Int32)) (by decide) ?_
      obtain ⟨h10, hf⟩ := hf
      refine zt_iaload hX dX6_digest_66 (by decide) rfl h10 ?_
      refine zt_callvV hX hY (av := [.int (zg_i σ9 74 (2 : Int32).toNatClampNeg)]) (c_X6_note hf) dX6_digest_67 rfl kw_1024 kw_1026 kw_59 kw_67 kw_1027 ⟨rfl, rfl⟩ hy_X6_note ⟨by decide, by decide⟩ ⟨by decide, by decide⟩ (Nat.le_of_ble_eq_true rfl) (by decide) (zE_73 _ _) rfl rfl (fun σ12 hf => ?_)
      refine zt_aload_n hX 0 dX6_digest_70 rfl rfl ?_
      refine zt_aload_n hX 0 dX6_digest_71 rfl rfl ?_
      refine zt_get_X6 hX (by decide) (zE_73 _ _) 0 (by decide) kw_654 rfl rfl dX6_digest_72 ?_
      refine zt_iconst hX dX6_digest_75 (v := (3 : Int32)) (by decide) ?_
      obtain ⟨h13, hf⟩ := hf
      refine zt_iaload hX dX6_digest_76 (by decide) rfl h13 ?_
      refine zt_callvV hX hY (av := [.int (zg_i σ12 74 (3 : Int32).toNatClampNeg)]) (c_X6_note hf) dX6_digest_77 rfl kw_1024 kw_1026 kw_59 kw_67 kw_1027 ⟨rfl, rfl⟩ hy_X6_note ⟨by decide, by decide⟩ ⟨by decide, by decide⟩ (Nat.le_of_ble_eq_true rfl) (by decide) (zE_73 _ _) rfl rfl (fun σ15 hf => ?_)
      refine zt_iconst hX dX6_digest_80 (v := (0 : Int32)) (by decide) ?_
      refine zt_istore_n (L' := [(1, .int (0 : Int32)), (0, .ref (n0 + 73))]) hX dX6_digest_81 rfl (by decide) rfl ?_
      exact zt_sub [1, 0] rfl (t_X6_digest_82 hX hY 400 _ _ hf)
    · replace hf := z_neg hf c6
      refine zt_aload_n hX 0 dX6_digest_32 rfl rfl ?_
      refine zt_aload_n hX 0 dX6_digest_33 rfl rfl ?_
      refine zt_get_X6 hX (by decide) (zE_73 _ _) 0 (by decide) kw_654 rfl rfl dX6_digest_34 ?_
      refine zt_iconst hX dX6_digest_37 (v := (4 : Int32)) (by decide) ?_
      refine zt_iload_n hX 1 dX6_digest_38 rfl rfl ?_
      refine zt_iadd hX dX6_digest_39 ?_
      obtain ⟨h26, hf⟩ := hf
      refine zt_iaload hX dX6_digest_40 (by decide) rfl h26 ?_
      refine zt_callvV hX hY (av := [.int (zg_i σ 74 ((4 : Int32) + x1).toNatClampNeg)]) (c_X6_note hf) dX6_digest_41 rfl kw_1024 kw_1026 kw_59 kw_67 kw_1027 ⟨rfl, rfl⟩ hy_X6_note ⟨by decide, by decide⟩ ⟨by decide, by decide⟩ (Nat.le_of_ble_eq_true rfl) (by decide) (zE_73 _ _) rfl rfl (fun σ28 hf => ?_)
      obtain ⟨y29, e29⟩ : ∃ y : Int32, y = (x1 + (1 : Int32)) := ⟨_, rfl⟩
      replace hf := hf y29 e29
      refine zt_iinc (L' := [(1, .int y29), (0, .ref (n0 + 73))]) hX 1 dX6_digest_44 rfl (v := y29) (by rw [e29]; rfl) (by decide) rfl ?_
      refine zt_goto hX dX6_digest_47 (tgt := 19) (by decide) ?_
      exact zt_sub [1, 0] rfl (ih19 _ _ hf)
set_option maxHeartbeats 4000000 in
set_option maxRecDepth 100000 in
theorem c_X6_digest {l : Launch} {D : va_G} {cI cJ cM cS : ClassId} {n0 : Nat}  {σ : z_S} {Q : Int64 → z_S → Prop} (hf : w_X6_digest  σ Q) : z_cl l D cI cJ cM cS n0 yX6_digest cX6_digest 2 .long rm_X6_digest 0 0 [.ref (n0 + 73)] σ Q := by
  refine z_ofl (by decide +kernel) (Nat.le_of_ble_eq_true rfl) (fun p e s m args below meth c hX hY => ?_)
  unfold w_X6_digest at hf
  refine zt_L (L' := [(0, .ref (n0 + 73))]) rfl ?_
  refine zt_aload_n hX 0 dX6_digest_0 rfl rfl ?_
  refine zt_ldc2 hX dX6_digest_1 kw_1023 ?_
  refine zt_putl_X6 hX (by decide) (zE_73 _ _) 12 (by decide) kw_666 rfl rfl (Nat.le_of_ble_eq_true rfl) rfl rfl dX6_digest_4 ?_
  refine zt_nms (fun σ1 d1 => ?_)
  replace hf := hf σ1 d1
  refine zt_aload_n hX 0 dX6_digest_7 rfl rfl ?_
  refine zt_aload_n hX 0 dX6_digest_8 rfl rfl ?_
  refine zt_get_X6 hX (by decide) (zE_73 _ _) 0 (by decide) kw_654 rfl rfl dX6_digest_9 ?_
  refine zt_iconst hX dX6_digest_12 (v := (0 : Int32)) (by decide) ?_
  obtain ⟨h2, hf⟩ := hf
  refine zt_iaload hX dX6_digest_13 (by decide) rfl h2 ?_
  refine zt_callvV hX hY (av := [.int (zg_i σ1 74 (0 : Int32).toNatClampNeg)]) (c_X6_note hf) dX6_digest_14 rfl kw_1024 kw_1026 kw_59 kw_67 kw_1027 ⟨rfl, rfl⟩ hy_X6_note ⟨by decide, by decide⟩ ⟨by decide, by decide⟩ (Nat.le_of_ble_eq_true rfl) (by decide) (zE_73 _ _) rfl rfl (fun σ4 hf => ?_)
  refine zt_iconst hX dX6_digest_17 (v := (0 : Int32)) (by decide) ?_
  refine zt_istore_n (L' := [(1, .int (0 : Int32)), (0, .ref (n0 + 73))]) hX dX6_digest_18 rfl (by decide) rfl ?_
  exact zt_sub [1, 0] rfl (t_X6_digest_19 hX hY 400 _ _ hf)
