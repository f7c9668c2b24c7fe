theorem dX5_revisions_0 : decode cX5_revisions 0 = .ok (.aload_n 0, 1) := by decide +kernel
theorem dX5_revisions_1 : decode cX5_revisions 1 = .ok (.getfield 10, 3) := by decide +kernel
theorem dX5_revisions_4 : decode cX5_revisions 4 = .ok (.getfield 183, 3) := by decide +kernel
theorem dX5_revisions_7 : decode cX5_revisions 7 = .ok (.ireturn, 1) := by decide +kernel
abbrev rm_X5_revisions : Room := { frames := 0, cells := 0, slots := 0, locals := 0 }
theorem hy_X5_revisions : yX5_revisions.cls ≠ "java/lang/invoke/MethodHandle" ∧ yX5_revisions.cls ≠ "java/lang/invoke/VarHandle" ∧ (parseMethodDescriptor yX5_revisions.desc).map (fun d => d.parameters.length) = some 0 := by decide +kernel
def w_X5_revisions  (σ : z_S) (Q : Int32 → z_S → Prop) : Prop :=
  Q (zg_i σ 1 3) σ
set_option maxHeartbeats 4000000 in
set_option maxRecDepth 100000 in
theorem c_X5_revisions {l : Launch} {D : va_G} {cI cJ cM cS : ClassId} {n0 : Nat}  {σ : z_S} {Q : Int32 → z_S → Prop} (hf : w_X5_revisions  σ Q) : z_ci l D cI cJ cM cS n0 yX5_revisions cX5_revisions 1 .int rm_X5_revisions 0 0 [.ref (n0 + 0)] σ Q := by
  refine z_ofi (by decide +kernel) (Nat.le_of_ble_eq_true rfl) (fun p e s m args below meth c hX hY => ?_)
  unfold w_X5_revisions at hf
  refine zt_L (L' := [(0, .ref (n0 + 0))]) rfl ?_
  refine zt_aload_n hX 0 dX5_revisions_0 rfl rfl ?_
  refine zt_get_X5 hX (by decide) (zE_0 _ _) 0 (by decide) kw_234 rfl rfl dX5_revisions_1 ?_
  refine zt_get_X4 hX (by decide) (zE_1 _ _) 3 (by decide) kw_98 rfl rfl dX5_revisions_4 ?_
  exact zt_iret hX hY dX5_revisions_7 hf

theorem dX5_billOf_0 : decode cX5_billOf 0 = .ok (.aload_n 0, 1) := by decide +kernel
theorem dX5_billOf_1 : decode cX5_billOf 1 = .ok (.getfield 10, 3) := by decide +kernel
theorem dX5_billOf_4 : decode cX5_billOf 4 = .ok (.iload_n 1, 1) := by decide +kernel
theorem dX5_billOf_5 : decode cX5_billOf 5 = .ok (.invokevirtual 189, 3) := by decide +kernel
theorem dX5_billOf_8 : decode cX5_billOf 8 = .ok (.ifCond .eq 14, 3) := by decide +kernel
theorem dX5_billOf_11 : decode cX5_billOf 11 = .ok (.aload_n 0, 1) := by decide +kernel
theorem dX5_billOf_12 : decode cX5_billOf 12 = .ok (.getfield 10, 3) := by decide +kernel
theorem dX5_billOf_15 : decode cX5_billOf 15 = .ok (.iload_n 2, 1) := by decide +kernel
theorem dX5_billOf_16 : decode cX5_billOf 16 = .ok (.invokevirtual 48, 3) := by decide +kernel
theorem dX5_billOf_19 : decode cX5_billOf 19 = .ok (.ifCond .ne 6, 3) := by decide +kernel
theorem dX5_billOf_22 : decode cX5_billOf 22 = .ok (.ldc 52, 2) := by decide +kernel
theorem dX5_billOf_24 : decode cX5_billOf 24 = .ok (.ireturn, 1) := by decide +kernel
theorem dX5_billOf_25 : decode cX5_billOf 25 = .ok (.aload_n 0, 1) := by decide +kernel
theorem dX5_billOf_26 : decode cX5_billOf 26 = .ok (.getfield 10, 3) := by decide +kernel
theorem dX5_billOf_29 : decode cX5_billOf 29 = .ok (.getfield 186, 3) := by decide +kernel
theorem dX5_billOf_32 : decode cX5_billOf 32 = .ok (.iload_n 1, 1) := by decide +kernel
theorem dX5_billOf_33 : decode cX5_billOf 33 = .ok (.aaload, 1) := by decide +kernel
theorem dX5_billOf_34 : decode cX5_billOf 34 = .ok (.iload_n 2, 1) := by decide +kernel
theorem dX5_billOf_35 : decode cX5_billOf 35 = .ok (.iaload, 1) := by decide +kernel
theorem dX5_billOf_36 : decode cX5_billOf 36 = .ok (.ireturn, 1) := by decide +kernel
abbrev rm_X5_billOf : Room := { frames := 1, cells := 0, slots := 0, locals := 21 }
theorem hy_X5_billOf : yX5_billOf.cls ≠ "java/lang/invoke/MethodHandle" ∧ yX5_billOf.cls ≠ "java/lang/invoke/VarHandle" ∧ (parseMethodDescriptor yX5_billOf.desc).map (fun d => d.parameters.length) = some 2 := by decide +kernel
def w_X5_billOf (a1 : Int32) (a2 : Int32) (σ : z_S) (Q : Int32 → z_S → Prop) : Prop :=
  w_X4_hasRevision a1 σ (fun r1 σ2 => if r1 = 0 then (Q (-2000000001 : Int32) σ2) else (w_X4_has a2 σ2 (fun r4 σ5 => if r4 = 0 then (Q (-2000000001 : Int32) σ5) else (vp_in a1 8 ∧ vp_in a2 10 ∧ Q (zg_i σ5 (19 + a1.toNatClampNeg) a2.toNatClampNeg) σ5))))
set_option maxHeartbeats 4000000 in
set_option maxRecDepth 100000 in
theorem c_X5_billOf {l : Launch} {D : va_G} {cI cJ cM cS : ClassId} {n0 : Nat} {a1 : Int32} {a2 : Int32} {σ : z_S} {Q : Int32 → z_S → Prop} (hf : w_X5_billOf a1 a2 σ Q) : z_ci l D cI cJ cM cS n0 yX5_billOf cX5_billOf 3 .int rm_X5_billOf 0 0 [.ref (n0 + 0), .int a1, .int a2] σ Q := by
  refine z_ofi (by decide +kernel) (Nat.le_of_ble_eq_true rfl) (fun p e s m args below meth c hX hY => ?_)
  unfold w_X5_billOf at hf
  refine zt_L (L' := [(0, .ref (n0 + 0)), (1, .int a1), (2, .int a2)]) rfl ?_
  refine zt_aload_n hX 0 dX5_billOf_0 rfl rfl ?_
  refine zt_get_X5 hX (by decide) (zE_0 _ _) 0 (by decide) kw_234 rfl rfl dX5_billOf_1 ?_
  refine zt_iload_n hX 1 dX5_billOf_4 rfl rfl ?_
  refine zt_calliV hX hY (av := [.int a1]) (c_X4_hasRevision hf) dX5_billOf_5 rfl kw_561 kw_562 kw_563 kw_62 kw_564 ⟨rfl, rfl⟩ hy_X4_hasRevision ⟨by decide, by decide⟩ ⟨by decide, by decide⟩ (Nat.le_of_ble_eq_true rfl) (by decide) (zE_1 _ _) rfl rfl (fun r1 σ2 hf => ?_)
  refine zt_if_eq hX dX5_billOf_8 (tgt := 22) (by decide) (fun c3 => ?_) (fun c3 => ?_)
  · replace hf := z_pos hf c3
    refine zt_ldc hX dX5_billOf_22 kw_258 ?_
    exact zt_iret hX hY dX5_billOf_24 hf
  · replace hf := z_neg hf c3
    refine zt_aload_n hX 0 dX5_billOf_11 rfl rfl ?_
    refine zt_get_X5 hX (by decide) (zE_0 _ _) 0 (by decide) kw_234 rfl rfl dX5_billOf_12 ?_
    refine zt_iload_n hX 2 dX5_billOf_15 rfl rfl ?_
    refine zt_calliV hX hY (av := [.int a2]) (c_X4_has hf) dX5_billOf_16 rfl kw_254 kw_255 kw_256 kw_62 kw_257 ⟨rfl, rfl⟩ hy_X4_has ⟨by decide, by decide⟩ ⟨by decide, by decide⟩ (Nat.le_of_ble_eq_true rfl) (by decide) (zE_1 _ _) rfl rfl (fun r4 σ5 hf => ?_)
    refine zt_if_ne hX dX5_billOf_19 (tgt := 25) (by decide) (fun c6 => ?_) (fun c6 => ?_)
    · replace hf := z_neg hf c6
      refine zt_aload_n hX 0 dX5_billOf_25 rfl rfl ?_
      refine zt_get_X5 hX (by decide) (zE_0 _ _) 0 (by decide) kw_234 rfl rfl dX5_billOf_26 ?_
      refine zt_get_X4 hX (by decide) (zE_1 _ _) 10 (by decide) kw_118 rfl rfl dX5_billOf_29 ?_
      refine zt_iload_n hX 1 dX5_billOf_32 rfl rfl ?_
      obtain ⟨h7, hf⟩ := hf
      refine zt_aaloadM hX dX5_billOf_33 (by decide) rfl (k1 := 19) rfl h7 ?_
      refine zt_iload_n hX 2 dX5_billOf_34 rfl rfl ?_
      obtain ⟨h8, hf⟩ := hf
      refine zt_iaload hX dX5_billOf_35 (z_row19 (z_lt h7)) (z_sh19 (z_lt h7)) h8 ?_
      exact zt_iret hX hY dX5_billOf_36 hf
    · replace hf := z_pos hf c6
      refine zt_ldc hX dX5_billOf_22 kw_258 ?_
      exact zt_iret hX hY dX5_billOf_24 hf

theorem dX5_noneAsZero_0 : decode cX5_noneAsZero 0 = .ok (.iload_n 0, 1) := by decide +kernel
theorem dX5_noneAsZero_1 : decode cX5_noneAsZero 1 = .ok (.ldc 104, 2) := by decide +kernel
theorem dX5_noneAsZero_3 : decode cX5_noneAsZero 3 = .ok (.if_icmp .ne 7, 3) := by decide +kernel
theorem dX5_noneAsZero_6 : decode cX5_noneAsZero 6 = .ok (.iconst 0, 1) := by decide +kernel
theorem dX5_noneAsZero_7 : decode cX5_noneAsZero 7 = .ok (.goto 4, 3) := by decide +kernel
theorem dX5_noneAsZero_10 : decode cX5_noneAsZero 10 = .ok (.iload_n 0, 1) := by decide +kernel
theorem dX5_noneAsZero_11 : decode cX5_noneAsZero 11 = .ok (.ireturn, 1) := by decide +kernel
abbrev rm_X5_noneAsZero : Room := { frames := 0, cells := 0, slots := 0, locals := 0 }
theorem hy_X5_noneAsZero : yX5_noneAsZero.cls ≠ "java/lang/invoke/MethodHandle" ∧ yX5_noneAsZero.cls ≠ "java/lang/invoke/VarHandle" ∧ (parseMethodDescriptor yX5_noneAsZero.desc).map (fun d => d.parameters.length) = some 1 := by decide +kernel
def w_X5_noneAsZero (a0 : Int32) (σ : z_S) (Q : Int32 → z_S → Prop) : Prop :=
  if a0 = (-2000000000 : Int32) then (Q (0 : Int32) σ) else (Q a0 σ)
set_option maxHeartbeats 4000000 in
set_option maxRecDepth 100000 in
theorem c_X5_noneAsZero {l : Launch} {D : va_G} {cI cJ cM cS : ClassId} {n0 : Nat} {a0 : Int32} {σ : z_S} {Q : Int32 → z_S → Prop} (hf : w_X5_noneAsZero a0 σ Q) : z_ci l D cI cJ cM cS n0 yX5_noneAsZero cX5_noneAsZero 1 .int rm_X5_noneAsZero 0 0 [.int a0] σ Q := by
  refine z_ofi (by decide +kernel) (Nat.le_of_ble_eq_true rfl) (fun p e s m args below meth c hX hY => ?_)
  unfold w_X5_noneAsZero at hf
  refine zt_L (L' := [(0, .int a0)]) rfl ?_
  refine zt_iload_n hX 0 dX5_noneAsZero_0 rfl rfl ?_
  refine zt_ldc hX dX5_noneAsZero_1 kw_329 ?_
  refine zt_icmp_ne hX dX5_noneAsZero_3 (tgt := 10) (by decide) (fun c1 => ?_) (fun c1 => ?_)
  · replace hf := z_neg hf c1
    refine zt_iload_n hX 0 dX5_noneAsZero_10 rfl rfl ?_
    exact zt_iret hX hY dX5_noneAsZero_11 hf
  · replace hf := z_pos hf c1
    refine zt_iconst hX dX5_noneAsZero_6 (v := (0 : Int32)) (by decide) ?_
    refine zt_goto hX dX5_noneAsZero_7 (tgt := 11) (by decide) ?_
    exact zt_iret hX hY dX5_noneAsZero_11 hf

theorem dX5_changed_0 : decode cX5_changed 0 = .ok (.aload_n 0, 1) := by decide +kernel
theorem dX5_changed_1 : decode cX5_changed 1 = .ok (.getfield 10, 3) := by decide +kernel
theorem dX5_changed_4 : decode cX5_changed 4 = .ok (.iload_n 1, 1) := by decide +kernel
theorem dX5_changed_5 : decode cX5_changed 5 = .ok (.invokevirtual 189, 3) := by decide +kernel
theorem dX5_changed_8 : decode cX5_changed 8 = .ok (.ifCond .eq 25, 3) := by decide +kernel
theorem dX5_changed_11 : decode cX5_changed 11 = .ok (.aload_n 0, 1) := by decide +kernel
theorem dX5_changed_12 : decode cX5_changed 12 = .ok (.getfield 10, 3) := by decide +kernel
theorem dX5_changed_15 : decode cX5_changed 15 = .ok (.iload_n 2, 1) := by decide +kernel
theorem dX5_changed_16 : decode cX5_changed 16 = .ok (.invokevirtual 189, 3) := by decide +kernel
theorem dX5_changed_19 : decode cX5_changed 19 = .ok (.ifCond .eq 14, 3) := by decide +kernel
theorem dX5_changed_22 : decode cX5_changed 22 = .ok (.aload_n 0, 1) := by decide +kernel
theorem dX5_changed_23 : decode cX5_changed 23 = .ok (.getfield 10, 3) := by decide +kernel
theorem dX5_changed_26 : decode cX5_changed 26 = .ok (.iload_n 3, 1) := by decide +kernel
theorem dX5_changed_27 : decode cX5_changed 27 = .ok (.invokevirtual 48, 3) := by decide +kernel
theorem dX5_changed_30 : decode cX5_changed 30 = .ok (.ifCond .ne 6, 3) := by decide +kernel
theorem dX5_changed_33 : decode cX5_changed 33 = .ok (.ldc 52, 2) := by decide +kernel
theorem dX5_changed_35 : decode cX5_changed 35 = .ok (.ireturn, 1) := by decide +kernel
theorem dX5_changed_36 : decode cX5_changed 36 = .ok (.aload_n 0, 1) := by decide +kernel
theorem dX5_changed_37 : decode cX5_changed 37 = .ok (.getfield 10, 3) := by decide +kernel
theorem dX5_changed_40 : decode cX5_changed 40 = .ok (.getfield 186, 3) := by decide +kernel
theorem dX5_changed_43 : decode cX5_changed 43 = .ok (.iload_n 2, 1) := by decide +kernel
theorem dX5_changed_44 : decode cX5_changed 44 = .ok (.aaload, 1) := by decide +kernel
theorem dX5_changed_45 : decode cX5_changed 45 = .ok (.iload_n 3, 1) := by decide +kernel
theorem dX5_changed_46 : decode cX5_changed 46 = .ok (.iaload, 1) := by decide +kernel
theorem dX5_changed_47 : decode cX5_changed 47 = .ok (.invokestatic 192, 3) := by decide +kernel
theorem dX5_changed_50 : decode cX5_changed 50 = .ok (.aload_n 0, 1) := by decide +kernel
theorem dX5_changed_51 : decode cX5_changed 51 = .ok (.getfield 10, 3) := by decide +kernel
theorem dX5_changed_54 : decode cX5_changed 54 = .ok (.getfield 186, 3) := by decide +kernel
theorem dX5_changed_57 : decode cX5_changed 57 = .ok (.iload_n 1, 1) := by decide +kernel
theorem dX5_changed_58 : decode cX5_changed 58 = .ok (.aaload, 1) := by decide +kernel
theorem dX5_changed_59 : decode cX5_changed 59 = .ok (.iload_n 3, 1) := by decide +kernel
theorem dX5_changed_60 : decode cX5_changed 60 = .ok (.iaload, 1) := by decide +kernel
theorem dX5_changed_61 : decode cX5_changed 61 = .ok (.invokestatic 192, 3) := by decide +kernel
theorem dX5_changed_64 : decode cX5_changed 64 = .ok (.isub, 1) := by decide +kernel
theorem dX5_changed_65 : decode cX5_changed 65 = .ok (.ireturn, 1) := by decide +kernel
abbrev rm_X5_changed : Room := { frames := 1, cells := 0, slots := 0, locals := 21 }
theorem hy_X5_changed : yX5_changed.cls ≠ "java/lang/invoke/MethodHandle" ∧ yX5_changed.cls ≠ "java/lang/invoke/VarHandle" ∧ (parseMethodDescriptor yX5_changed.desc).map (fun d => d.parameters.length) = some 3 := by decide +kernel
def w_X5_changed (a1 : Int32) (a2 : Int32) (a3 : Int32) (σ : z_S) (Q : Int32 → z_S → Prop) : Prop :=
  w_X4_hasRevision a1 σ (fun r1 σ2 => if r1 = 0 then (Q (-2000000001 : Int32) σ2) else (w_X4_hasRevision a2 σ2 (fun r4 σ5 => if r4 = 0 then (Q (-2000000001 : Int32) σ5) else (w_X4_has a3 σ5 (fun r7 σ8 => if r7 = 0 then (Q (-2000000001 : Int32) σ8) else (vp_in a2 8 ∧ vp_in a3 10 ∧ w_X5_noneAsZero (zg_i σ8 (19 + a2.toNatClampNeg) a3.toNatClampNeg) σ8 (fun r12 σ13 => vp_in a1 8 ∧ vp_in a3 10 ∧ w_X5_noneAsZero (zg_i σ13 (19 + a1.toNatClampNeg) a3.toNatClampNeg) σ13 (fun r16 σ17 => Q (r12 - r16) σ17))))))))
set_option maxHeartbeats 4000000 in
set_option maxRecDepth 100000 in
theorem c_X5_changed {l : Launch} {D : va_G} {cI cJ cM cS : ClassId} {n0 : Nat} {a1 : Int32} {a2 : Int32} {a3 : Int32} {σ : z_S} {Q : Int32 → z_S → Prop} (hf : w_X5_changed a1 a2 a3 σ Q) : z_ci l D cI cJ cM cS n0 yX5_changed cX5_changed 4 .int rm_X5_changed 0 0 [.ref (n0 + 0), .int a1, .int a2, .int a3] σ Q := by
  refine z_ofi (by decide +kernel) (Nat.le_of_ble_eq_true rfl) (fun p e s m args below meth c hX hY => ?_)
  unfold w_X5_changed at hf
  refine zt_L (L' := [(0, .ref (n0 + 0)), (1, .int a1), (2, .int a2), (3, .int a3)]) rfl ?_
  refine zt_aload_n hX 0 dX5_changed_0 rfl rfl ?_
  refine zt_get_X5 hX (by decide) (zE_0 _ _) 0 (by decide) kw_234 rfl rfl dX5_changed_1 ?_
  refine zt_iload_n hX 1 dX5_changed_4 rfl rfl ?_
  refine zt_calliV hX hY (av := [.int a1]) (c_X4_hasRevision hf) dX5_changed_5 rfl kw_561 kw_562 kw_563 kw_62 kw_564 ⟨rfl, rfl⟩ hy_X4_hasRevision ⟨by decide, by decide⟩ ⟨by decide, by decide⟩ (Nat.le_of_ble_eq_true rfl) (by decide) (zE_1 _ _) rfl rfl (fun r1 σ2 hf => ?_)
  refine zt_if_eq hX dX5_changed_8 (tgt := 33) (by decide) (fun c3 => ?_) (fun c3 => ?_)
  · replace hf := z_pos hf c3
    refine zt_ldc hX dX5_changed_33 kw_258 ?_
    exact zt_iret hX hY dX5_changed_35 hf
  · replace hf := z_neg hf c3
    refine zt_aload_n hX 0 dX5_changed_11 rfl rfl ?_
    refine zt_get_X5 hX (by decide) (zE_0 _ _) 0 (by decide) kw_234 rfl rfl dX5_changed_12 ?_
    refine zt_iload_n hX 2 dX5_changed_15 rfl rfl ?_
    refine zt_calliV hX hY (av := [.int a2]) (c_X4_hasRevision hf) dX5_changed_16 rfl kw_561 kw_562 kw_563 kw_62 kw_564 ⟨rfl, rfl⟩ hy_X4_hasRevision ⟨by decide, by decide⟩ ⟨by decide, by decide⟩ (Nat.le_of_ble_eq_true rfl) (by decide) (zE_1 _ _) rfl rfl (fun r4 σ5 hf => ?_)
    refine zt_if_eq hX dX5_changed_19 (tgt := 33) (by decide) (fun c6 => ?_) (fun c6 => ?_)
    · replace hf := z_pos hf c6
      refine zt_ldc hX dX5_changed_33 kw_258 ?_
      exact zt_iret hX hY dX5_changed_35 hf
    · replace hf := z_neg hf c6
      refine zt_aload_n hX 0 dX5_changed_22 rfl rfl ?_
      refine zt_get_X5 hX (by decide) (zE_0 _ _) 0 (by decide) kw_234 rfl rfl dX5_changed_23 ?_
      refine zt_iload_n hX 3 dX5_changed_26 rfl rfl ?_
      refine zt_calliV hX hY (av := [.int a3]) (c_X4_has hf) dX5_changed_27 rfl kw_254 kw_255 kw_256 kw_62 kw_257 ⟨rfl, rfl⟩ hy_X4_has ⟨by decide, by decide⟩ ⟨by decide, by decide⟩ (Nat.le_of_ble_eq_true rfl) (by decide) (zE_1 _ _) rfl rfl (fun r7 σ8 hf => ?_)
      refine zt_if_ne hX dX5_changed_30 (tgt := 36) (by decide) (fun c9 => ?_) (fun c9 => ?_)
      · replace hf := z_neg hf c9
        refine zt_aload_n hX 0 dX5_changed_36 rfl rfl ?_
        refine zt_get_X5 hX (by decide) (zE_0 _ _) 0 (by decide) kw_234 rfl rfl dX5_changed_37 ?_
        refine zt_get_X4 hX (by decide) (zE_1 _ _) 10 (by decide) kw_118 rfl rfl dX5_changed_40 ?_
        refine zt_iload_n hX 2 dX5_changed_43 rfl rfl ?_
        obtain ⟨h10, hf⟩ := hf
        refine zt_aaloadM hX dX5_changed_44 (by decide) rfl (k1 := 19) rfl h10 ?_
        refine zt_iload_n hX 3 dX5_changed_45 rfl rfl ?_
        obtain ⟨h11, hf⟩ := hf
        refine zt_iaload hX dX5_changed_46 (z_row19 (z_lt h10)) (z_sh19 (z_lt h10)) h11 ?_
        refine zt_calliS hX hY (av := [.int (zg_i σ8 (19 + a2.toNatClampNeg) a3.toNatClampNeg)]) (c_X5_noneAsZero hf) dX5_changed_47 rfl kw_569 kw_570 kw_61 kw_571 ⟨rfl, rfl⟩ hy_X5_noneAsZero ⟨by decide, by decide⟩ ⟨by decide, by decide⟩ (Nat.le_of_ble_eq_true rfl) (fun r12 σ13 hf => ?_)
        refine zt_aload_n hX 0 dX5_changed_50 rfl rfl ?_
        refine zt_get_X5 hX (by decide) (zE_0 _ _) 0 (by decide) kw_234 rfl rfl dX5_changed_51 ?_
        refine zt_get_X4 hX (by decide) (zE_1 _ _) 10 (by decide) kw_118 rfl rfl dX5_changed_54 ?_
        refine zt_iload_n hX 1 dX5_changed_57 rfl rfl ?_
        obtain ⟨h14, hf⟩ := hf
        refine zt_aaloadM hX dX5_changed_58 (by decide) rfl (k1 := 19) rfl h14 ?_
        refine zt_iload_n hX 3 dX5_changed_59 rfl rfl ?_
        obtain ⟨h15, hf⟩ := hf
        refine zt_iaload hX dX5_changed_60 (z_row19 (z_lt h14)) (z_sh19 (z_lt h14)) h15 ?_
        refine zt_calliS hX hY (av := [.int (zg_i σ13 (19 + a1.toNatClampNeg) a3.toNatClampNeg)]) (c_X5_noneAsZero hf) dX5_changed_61 rfl kw_569 kw_570 kw_61 kw_571 ⟨rfl, rfl⟩ hy_X5_noneAsZero ⟨by decide, by decide⟩ ⟨by decide, by decide⟩ (Nat.le_of_ble_eq_true rfl) (fun r16 σ17 hf => ?_)
        refine zt_isub hX dX5_changed_64 ?_
        exact zt_iret hX hY dX5_changed_65 hf
      · replace hf := z_pos hf c9
        refine zt_ldc hX dX5_changed_33 kw_258 ?_
        exact zt_iret hX hY dX5_changed_35 hf

theorem dX5_clearRevisions_0 : decode cX5_clearRevisions 0 = .ok (.aload_n 0, 1) := by decide +kernel
theorem dX5_clearRevisions_1 : decode cX5_clearRevisions 1 = .ok (.getfield 19, 3) := by decide +kernel
theorem dX5_clearRevisions_4 : decode cX5_clearRevisions 4 = .ok (.aload_n 0, 1) := by decide +kernel
theorem dX5_clearRevisions_5 : decode cX5_clearRevisions 5 = .ok (.getfield 10, 3) := by decide +kernel
theorem dX5_clearRevisions_8 : decode cX5_clearRevisions 8 = .ok (.invokevirtual 54, 3) := by decide +kernel
theorem dX5_clearRevisions_11 : decode cX5_clearRevisions 11 = .ok (.aload_n 0, 1) := by decide +kernel
theorem dX5_clearRevisions_12 : decode cX5_clearRevisions 12 = .ok (.getfield 10, 3) := by decide +kernel
theorem dX5_clearRevisions_15 : decode cX5_clearRevisions 15 = .ok (.getfield 183, 3) := by decide +kernel
theorem dX5_clearRevisions_18 : decode cX5_clearRevisions 18 = .ok (.istore_n 1, 1) := by decide +kernel
theorem dX5_clearRevisions_19 : decode cX5_clearRevisions 19 = .ok (.aload_n 0, 1) := by decide +kernel
theorem dX5_clearRevisions_20 : decode cX5_clearRevisions 20 = .ok (.getfield 10, 3) := by decide +kernel
theorem dX5_clearRevisions_23 : decode cX5_clearRevisions 23 = .ok (.iconst 0, 1) := by decide +kernel
theorem dX5_clearRevisions_24 : decode cX5_clearRevisions 24 = .ok (.putfield 183, 3) := by decide +kernel
theorem dX5_clearRevisions_27 : decode cX5_clearRevisions 27 = .ok (.iload_n 1, 1) := by decide +kernel
theorem dX5_clearRevisions_28 : decode cX5_clearRevisions 28 = .ok (.ireturn, 1) := by decide +kernel
abbrev rm_X5_clearRevisions : Room := { frames := 3, cells := 26, slots := 289, locals := 71 }
theorem hy_X5_clearRevisions : yX5_clearRevisions.cls ≠ "java/lang/invoke/MethodHandle" ∧ yX5_clearRevisions.cls ≠ "java/lang/invoke/VarHandle" ∧ (parseMethodDescriptor yX5_clearRevisions.desc).map (fun d => d.parameters.length) = some 0 := by decide +kernel
def w_X5_clearRevisions  (σ : z_S) (Q : Int32 → z_S → Prop) : Prop :=
  w_X2_push σ (fun σ2 => ∀ y3 : Int32, y3 = (zg_i σ2 1 3) → ∀ σ4 : z_S, σ4 = zs_i σ2 1 3 (0 : Int32) → Q y3 σ4)
set_option maxHeartbeats 4000000 in
set_option maxRecDepth 100000 in
theorem c_X5_clearRevisions {l : Launch} {D : va_G} {cI cJ cM cS : ClassId} {n0 : Nat}  {σ : z_S} {Q : Int32 → z_S → Prop} (hf : w_X5_clearRevisions  σ Q) : z_ci l D cI cJ cM cS n0 yX5_clearRevisions cX5_clearRevisions 2 .int rm_X5_clearRevisions 26 289 [.ref (n0 + 0)] σ Q := by
  refine z_ofi (by decide +kernel) (Nat.le_of_ble_eq_true rfl) (fun p e s m args below meth c hX hY => ?_)
  unfold w_X5_clearRevisions at hf
  refine zt_L (L' := [(0, .ref (n0 + 0))]) rfl ?_
  refine zt_aload_n hX 0 dX5_clearRevisions_0 rfl rfl ?_
  refine zt_get_X5 hX (by decide) (zE_0 _ _) 1 (by decide) kw_235 rfl rfl dX5_clearRevisions_1 ?_
  refine zt_aload_n hX 0 dX5_clearRevisions_4 rfl rfl ?_
  refine zt_get_X5 hX (by decide) (zE_0 _ _) 0 (by decide) kw_234 rfl rfl dX5_clearRevisions_5 ?_
  refine zt_callvV hX hY (av := [.ref (n0 + 1)]) (c_X2_push hf) dX5_clearRevisions_8 rfl kw_260 kw_261 kw_262 kw_63 kw_263 ⟨rfl, rfl⟩ hy_X2_push ⟨by decide, by decide⟩ ⟨by decide, by decide⟩ (Nat.le_of_ble_eq_true rfl) (by decide) (zE_27 _ _) rfl rfl (fun σ2 hf => ?_)
  refine zt_aload_n hX 0 dX5_clearRevisions_11 rfl rfl ?_
  refine zt_get_X5 hX (by decide) (zE_0 _ _) 0 (by decide) kw_234 rfl rfl dX5_clearRevisions_12 ?_
  refine zt_get_X4 hX (by decide) (zE_1 _ _) 3 (by decide) kw_98 rfl rfl dX5_clearRevisions_15 ?_
  refine zt_nmi (fun y3 e3 => ?_)
  replace hf := hf y3 e3
  refine zt_istore_n (L' := [(1, .int y3), (0, .ref (n0 + 0))]) hX dX5_clearRevisions_18 rfl (by decide) rfl ?_
  refine zt_aload_n hX 1 dX5_clearRevisions_19 rfl rfl ?_
  refine zt_get_X5 hX (by decide) (zE_0 _ _) 0 (by decide) kw_234 rfl rfl dX5_clearRevisions_20 ?_
  refine zt_iconst hX dX5_clearRevisions_23 (v := (0 : Int32)) (by decide) ?_
  refine zt_puti_X4 hX (by decide) (zE_1 _ _) 3 (by decide) kw_98 rfl rfl (Nat.le_of_ble_eq_true rfl) rfl rfl dX5_clearRevisions_24 ?_
  refine zt_nms (fun σ4 d4 => ?_)
  replace hf := hf σ4 d4
  refine zt_iload_n hX 0 dX5_clearRevisions_27 rfl rfl ?_
  exact zt_iret hX hY dX5_clearRevisions_28 hf

theorem dX5_undo_0 : decode cX5_undo 0 = .ok (.aload_n 0, 1) := by decide +kernel
theorem dX5_undo_1 : decode cX5_undo 1 = .ok (.getfield 19, 3) := by decide +kernel
theorem dX5_undo_4 : decode cX5_undo 4 = .ok (.getfield 195, 3) := by decide +kernel
theorem dX5_undo_7 : decode cX5_undo 7 = .ok (.ifCond .ne 6, 3) := by decide +kernel
theorem dX5_undo_10 : decode cX5_undo 10 = .ok (.ldc 182, 2) := by decide +kernel
theorem dX5_undo_12 : decode cX5_undo 12 = .ok (.ireturn, 1) := by decide +kernel
theorem dX5_undo_13 : decode cX5_undo 13 = .ok (.aload_n 0, 1) := by decide +kernel
theorem dX5_undo_14 : decode cX5_undo 14 = .ok (.getfield 19, 3) := by decide +kernel
theorem dX5_undo_17 : decode cX5_undo 17 = .ok (.aload_n 0, 1) := by decide +kernel
theorem dX5_undo_18 : decode cX5_undo 18 = .ok (.getfield 10, 3) := by decide +kernel
theorem dX5_undo_21 : decode cX5_undo 21 = .ok (.invokevirtual 198, 3) := by decide +kernel
theorem dX5_undo_24 : decode cX5_undo 24 = .ok (.aload_n 0, 1) := by decide +kernel
theorem dX5_undo_25 : decode cX5_undo 25 = .ok (.getfield 19, 3) := by decide +kernel
theorem dX5_undo_28 : decode cX5_undo 28 = .ok (.getfield 195, 3) := by decide +kernel
theorem dX5_undo_31 : decode cX5_undo 31 = .ok (.ireturn, 1) := by decide +kernel
abbrev rm_X5_undo : Room := { frames := 3, cells := 0, slots := 0, locals := 71 }
theorem hy_X5_undo : yX5_undo.cls ≠ "java/lang/invoke/MethodHandle" ∧ yX5_undo.cls ≠ "java/lang/invoke/VarHandle" ∧ (parseMethodDescriptor yX5_undo.desc).map (fun d => d.parameters.length) = some 0 := by decide +kernel
def w_X5_undo  (σ : z_S) (Q : Int32 → z_S → Prop) : Prop :=
  if (zg_i σ 27 1) = 0 then (Q (-2000000003 : Int32) σ) else (w_X2_pop σ (fun σ3 => Q (zg_i σ3 27 1) σ3))
set_option maxHeartbeats 4000000 in
set_option maxRecDepth 100000 in
theorem c_X5_undo {l : Launch} {D : va_G} {cI cJ cM cS : ClassId} {n0 : Nat}  {σ : z_S} {Q : Int32 → z_S → Prop} (hf : w_X5_undo  σ Q) : z_ci l D cI cJ cM cS n0 yX5_undo cX5_undo 1 .int rm_X5_undo 0 0 [.ref (n0 + 0)] σ Q := by
  refine z_ofi (by decide +kernel) (Nat.le_of_ble_eq_true rfl) (fun p e s m args below meth c hX hY => ?_)
  unfold w_X5_undo at hf
  refine zt_L (L' := [(0, .ref (n0 + 0))]) rfl ?_
  refine zt_aload_n hX 0 dX5_undo_0 rfl rfl ?_
  refine zt_get_X5 hX (by decide) (zE_0 _ _) 1 (by decide) kw_235 rfl rfl dX5_undo_1 ?_
  refine zt_get_X2 hX (by decide) (zE_27 _ _) 1 (by decide) kw_153 rfl rfl dX5_undo_4 ?_
  refine zt_if_ne hX dX5_undo_7 (tgt := 13) (by decide) (fun c1 => ?_) (fun c1 => ?_)
  · replace hf := z_neg hf c1
    refine zt_aload_n hX 0 dX5_undo_13 rfl rfl ?_
    refine zt_get_X5 hX (by decide) (zE_0 _ _) 1 (by decide) kw_235 rfl rfl dX5_undo_14 ?_
    refine zt_aload_n hX 0 dX5_undo_17 rfl rfl ?_
    refine zt_get_X5 hX (by decide) (zE_0 _ _) 0 (by decide) kw_234 rfl rfl dX5_undo_18 ?_
    refine zt_callvV hX hY (av := [.ref (n0 + 1)]) (c_X2_pop hf) dX5_undo_21 rfl kw_580 kw_581 kw_582 kw_63 kw_583 ⟨rfl, rfl⟩ hy_X2_pop ⟨by decide, by decide⟩ ⟨by decide, by decide⟩ (Nat.le_of_ble_eq_true rfl) (by decide) (zE_27 _ _) rfl rfl (fun σ3 hf => ?_)
    refine zt_aload_n hX 0 dX5_undo_24 rfl rfl ?_
    refine zt_get_X5 hX (by decide) (zE_0 _ _) 1 (by decide) kw_235 rfl rfl dX5_undo_25 ?_
    refine zt_get_X2 hX (by decide) (zE_27 _ _) 1 (by decide) kw_153 rfl rfl dX5_undo_28 ?_
    exact zt_iret hX hY dX5_undo_31 hf
  · replace hf := z_pos hf c1
    refine zt_ldc hX dX5_undo_10 kw_552 ?_
    exact zt_iret hX hY dX5_undo_12 hf

theorem dX5_type_0 : decode cX5_type 0 = .ok (.iload_n 1, 1) := by decide +kernel
theorem dX5_type_1 : decode cX5_type 1 = .ok (.iconst 0, 1) := by decide +kernel
theorem dX5_type_2 : decode cX5_type 2 = .ok (.sipush 255, 3) := by decide +kernel
theorem dX5_type_5 : decode cX5_type 5 = .ok (.invokestatic 62, 3) := by decide +kernel
theorem dX5_type_8 : decode cX5_type 8 = .ok (.ifCond .ne 6, 3) := by decide +kernel
theorem dX5_type_11 : decode cX5_type 11 = .ok (.ldc 66, 2) := by decide +kernel
theorem dX5_type_13 : decode cX5_type 13 = .ok (.ireturn, 1) := by decide +kernel
theorem dX5_type_14 : decode cX5_type 14 = .ok (.aload_n 0, 1) := by decide +kernel
theorem dX5_type_15 : decode cX5_type 15 = .ok (.getfield 40, 3) := by decide +kernel
theorem dX5_type_18 : decode cX5_type 18 = .ok (.getfield 201, 3) := by decide +kernel
theorem dX5_type_21 : decode cX5_type 21 = .ok (.bipush 120, 2) := by decide +kernel
theorem dX5_type_23 : decode cX5_type 23 = .ok (.if_icmp .lt 6, 3) := by decide +kernel
theorem dX5_type_26 : decode cX5_type 26 = .ok (.ldc 53, 2) := by decide +kernel
theorem dX5_type_28 : decode cX5_type 28 = .ok (.ireturn, 1) := by decide +kernel
theorem dX5_type_29 : decode cX5_type 29 = .ok (.aload_n 0, 1) := by decide +kernel
theorem dX5_type_30 : decode cX5_type 30 = .ok (.getfield 40, 3) := by decide +kernel
theorem dX5_type_33 : decode cX5_type 33 = .ok (.getfield 204, 3) := by decide +kernel
theorem dX5_type_36 : decode cX5_type 36 = .ok (.aload_n 0, 1) := by decide +kernel
theorem dX5_type_37 : decode cX5_type 37 = .ok (.getfield 40, 3) := by decide +kernel
theorem dX5_type_40 : decode cX5_type 40 = .ok (.getfield 201, 3) := by decide +kernel
theorem dX5_type_43 : decode cX5_type 43 = .ok (.iload_n 1, 1) := by decide +kernel
theorem dX5_type_44 : decode cX5_type 44 = .ok (.iastore, 1) := by decide +kernel
theorem dX5_type_45 : decode cX5_type 45 = .ok (.aload_n 0, 1) := by decide +kernel
theorem dX5_type_46 : decode cX5_type 46 = .ok (.getfield 40, 3) := by decide +kernel
theorem dX5_type_49 : decode cX5_type 49 = .ok (.dup, 1) := by decide +kernel
theorem dX5_type_50 : decode cX5_type 50 = .ok (.getfield 201, 3) := by decide +kernel
theorem dX5_type_53 : decode cX5_type 53 = .ok (.iconst 1, 1) := by decide +kernel
theorem dX5_type_54 : decode cX5_type 54 = .ok (.iadd, 1) := by decide +kernel
theorem dX5_type_55 : decode cX5_type 55 = .ok (.putfield 201, 3) := by decide +kernel
theorem dX5_type_58 : decode cX5_type 58 = .ok (.aload_n 0, 1) := by decide +kernel
theorem dX5_type_59 : decode cX5_type 59 = .ok (.getfield 40, 3) := by decide +kernel
theorem dX5_type_62 : decode cX5_type 62 = .ok (.getfield 201, 3) := by decide +kernel
theorem dX5_type_65 : decode cX5_type 65 = .ok (.ireturn, 1) := by decide +kernel
abbrev rm_X5_type : Room := { frames := 1, cells := 0, slots := 0, locals := 22 }
theorem hy_X5_type : yX5_type.cls ≠ "java/lang/invoke/MethodHandle" ∧ yX5_type.cls ≠ "java/lang/invoke/VarHandle" ∧ (parseMethodDescriptor yX5_type.desc).map (fun d => d.parameters.length) = some 1 := by decide +kernel
def w_X5_type (a1 : Int32) (σ : z_S) (Q : Int32 → z_S → Prop) : Prop :=
  w_X5_within a1 (0 : Int32) (255 : Int32) σ (fun r1 σ2 => if r1 = 0 then (Q (-2000000002 : Int32) σ2) else (if (zg_i σ2 68 1) < (120 : Int32) then (vp_in (zg_i σ2 68 1) 120 ∧ ∀ σ6 : z_S, σ6 = zs_i σ2 69 (zg_i σ2 68 1).toNatClampNeg a1 → ∀ σ7 : z_S, σ7 = zs_i σ6 68 1 ((zg_i σ6 68 1) + (1 : Int32)) → Q (zg_i σ7 68 1) σ7) else (Q (-2000000004 : Int32) σ2)))
set_option maxHeartbeats 4000000 in
set_option maxRecDepth 100000 in
theorem c_X5_type {l : Launch} {D : va_G} {cI cJ cM cS : ClassId} {n0 : Nat} {a1 : Int32} {σ : z_S} {Q : Int32 → z_S → Prop} (hf : w_X5_type a1 σ Q) : z_ci l D cI cJ cM cS n0 yX5_type cX5_type 2 .int rm_X5_type 0 0 [.ref (n0 + 0), .int a1] σ Q := by
  refine z_ofi (by decide +kernel) (Nat.le_of_ble_eq_true rfl) (fun p e s m args below meth c hX hY => ?_)
  unfold w_X5_type at hf
  refine zt_L (L' := [(0, .ref (n0 + 0)), (1, .int a1)]) rfl ?_
  refine zt_iload_n hX 1 dX5_type_0 rfl rfl ?_
  refine zt_iconst hX dX5_type_1 (v := (0 : Int32)) (by decide) ?_
  refine zt_sipush hX dX5_type_2 (v := (255 : Int32)) (by decide) ?_
  refine zt_calliS hX hY (av := [.int a1, .int (0 : Int32), .int (255 : Int32)]) (c_X5_within hf) dX5_type_5 rfl kw_290 kw_291 kw_61 kw_292 ⟨rfl, rfl⟩ hy_X5_within ⟨by decide, by decide⟩ ⟨by decide, by decide⟩ (Nat.le_of_ble_eq_true rfl) (fun r1 σ2 hf => ?_)
  refine zt_if_ne hX dX5_type_8 (tgt := 14) (by decide) (fun c3 => ?_) (fun c3 => ?_)
  · replace hf := z_neg hf c3
    refine zt_aload_n hX 0 dX5_type_14 rfl rfl ?_
    refine zt_get_X5 hX (by decide) (zE_0 _ _) 4 (by decide) kw_238 rfl rfl dX5_type_15 ?_
    refine zt_get_X3 hX (by decide) (zE_68 _ _) 1 (by decide) kw_210 rfl rfl dX5_type_18 ?_
    refine zt_bipush hX dX5_type_21 (v := (120 : Int32)) (by decide) ?_
    refine zt_icmp_lt hX dX5_type_23 (tgt := 29) (by decide) (fun c4 => ?_) (fun c4 => ?_)
    · replace hf := z_pos hf c4
      refine zt_aload_n hX 0 dX5_type_29 rfl rfl ?_
      refine zt_get_X5 hX (by decide) (zE_0 _ _) 4 (by decide) kw_238 rfl rfl dX5_type_30 ?_
      refine zt_get_X3 hX (by decide) (zE_68 _ _) 0 (by decide) kw_208 rfl rfl dX5_type_33 ?_
      refine zt_aload_n hX 0 dX5_type_36 rfl rfl ?_
      refine zt_get_X5 hX (by decide) (zE_0 _ _) 4 (by decide) kw_238 rfl rfl dX5_type_37 ?_
      refine zt_get_X3 hX (by decide) (zE_68 _ _) 1 (by decide) kw_210 rfl rfl dX5_type_40 ?_
      refine zt_iload_n hX 1 dX5_type_43 rfl rfl ?_
      obtain ⟨h5, hf⟩ := hf
      refine zt_iastore hX dX5_type_44 (by decide) rfl h5 ?_
      refine zt_nms (fun σ6 d6 => ?_)
      replace hf := hf σ6 d6
      refine zt_aload_n hX 0 dX5_type_45 rfl rfl ?_
      refine zt_get_X5 hX (by decide) (zE_0 _ _) 4 (by decide) kw_238 rfl rfl dX5_type_46 ?_
      refine zt_dup hX dX5_type_49 rfl ?_
      refine zt_get_X3 hX (by decide) (zE_68 _ _) 1 (by decide) kw_210 rfl rfl dX5_type_50 ?_
      refine zt_iconst hX dX5_type_53 (v := (1 : Int32)) (by decide) ?_
      refine zt_iadd hX dX5_type_54 ?_
      refine zt_puti_X3 hX (by decide) (zE_68 _ _) 1 (by decide) kw_210 rfl rfl (Nat.le_of_ble_eq_true rfl) rfl rfl dX5_type_55 ?_
      refine zt_nms (fun σ7 d7 => ?_)
      replace hf := hf σ7 d7
      refine zt_aload_n hX 0 dX5_type_58 rfl rfl ?_
      refine zt_get_X5 hX (by decide) (zE_0 _ _) 4 (by decide) kw_238 rfl rfl dX5_type_59 ?_
      refine zt_get_X3 hX (by decide) (zE_68 _ _) 1 (by decide) kw_210 rfl rfl dX5_type_62 ?_
      exact zt_iret hX hY dX5_type_65 hf
    · replace hf := z_neg hf c4
      refine zt_ldc hX dX5_type_26 kw_259 ?_
      exact zt_iret hX hY dX5_type_28 hf
  · replace hf := z_pos hf c3
    refine zt_ldc hX dX5_type_11 kw_293 ?_
    exact zt_iret hX hY dX5_type_13 hf

theorem dX5_clearText_0 : decode cX5_clearText 0 = .ok (.aload_n 0, 1) := by decide +kernel
theorem dX5_clearText_1 : decode cX5_clearText 1 = .ok (.getfield 40, 3) := by decide +kernel
theorem dX5_clearText_4 : decode cX5_clearText 4 = .ok (.getfield 201, 3) := by decide +kernel
theorem dX5_clearText_7 : decode cX5_clearText 7 = .ok (.istore_n 1, 1) := by decide +kernel
theorem dX5_clearText_8 : decode cX5_clearText 8 = .ok (.aload_n 0, 1) := by decide +kernel
theorem dX5_clearText_9 : decode cX5_clearText 9 = .ok (.getfield 40, 3) := by decide +kernel
theorem dX5_clearText_12 : decode cX5_clearText 12 = .ok (.iconst 0, 1) := by decide +kernel
theorem dX5_clearText_13 : decode cX5_clearText 13 = .ok (.putfield 201, 3) := by decide +kernel
theorem dX5_clearText_16 : decode cX5_clearText 16 = .ok (.iload_n 1, 1) := by decide +kernel
theorem dX5_clearText_17 : decode cX5_clearText 17 = .ok (.ireturn, 1) := by decide +kernel
abbrev rm_X5_clearText : Room := { frames := 0, cells := 0, slots := 0, locals := 0 }
theorem hy_X5_clearText : yX5_clearText.cls ≠ "java/lang/invoke/MethodHandle" ∧ yX5_clearText.cls ≠ "java/lang/invoke/VarHandle" ∧ (parseMethodDescriptor yX5_clearText.desc).map (fun d => d.parameters.length) = some 0 := by decide +kernel
def w_X5_clearText  (σ : z_S) (Q : Int32 → z_S → Prop) : Prop :=
  ∀ y1 : Int32, y1 = (zg_i σ 68 1) → ∀ σ2 : z_S, σ2 = zs_i σ 68 1 (0 : Int32) → Q y1 σ2
set_option maxHeartbeats 4000000 in
set_option maxRecDepth 100000 in
theorem c_X5_clearText {l : Launch} {D : va_G} {cI cJ cM cS : ClassId} {n0 : Nat}  {σ : z_S} {Q : Int32 → z_S → Prop} (hf : w_X5_clearText  σ Q) : z_ci l D cI cJ cM cS n0 yX5_clearText cX5_clearText 2 .int rm_X5_clearText 0 0 [.ref (n0 + 0)] σ Q := by
  refine z_ofi (by decide +kernel) (Nat.le_of_ble_eq_true rfl) (fun p e s m args below meth c hX hY => ?_)
  unfold w_X5_clearText at hf
  refine zt_L (L' := [(0, .ref (n0 + 0))]) rfl ?_
  refine zt_aload_n hX 0 dX5_clearText_0 rfl rfl ?_
  refine zt_get_X5 hX (by decide) (zE_0 _ _) 4 (by decide) kw_238 rfl rfl dX5_clearText_1 ?_
  refine zt_get_X3 hX (by decide) (zE_68 _ _) 1 (by decide) kw_210 rfl rfl dX5_clearText_4 ?_
  refine zt_nmi (fun y1 e1 => ?_)
  replace hf := hf y1 e1
  refine zt_istore_n (L' := [(1, .int y1), (0, .ref (n0 + 0))]) hX dX5_clearText_7 rfl (by decide) rfl ?_
  refine zt_aload_n hX 1 dX5_clearText_8 rfl rfl ?_
  refine zt_get_X5 hX (by decide) (zE_0 _ _) 4 (by decide) kw_238 rfl rfl dX5_clearText_9 ?_
  refine zt_iconst hX dX5_clearText_12 (v := (0 : Int32)) (by decide) ?_
  refine zt_puti_X3 hX (by decide) (zE_68 _ _) 1 (by decide) kw_210 rfl rfl (Nat.le_of_ble_eq_true rfl) rfl rfl dX5_clearText_13 ?_
  refine zt_nms (fun σ2 d2 => ?_)
  replace hf := hf σ2 d2
  refine zt_iload_n hX 0 dX5_clearText_16 rfl rfl ?_
  exact zt_iret hX hY dX5_clearText_17 hf

theorem dX5_textFault_0 : decode cX5_textFault 0 = .ok (.aload_n 0, 1) := by decide +kernel
theorem dX5_textFault_1 : decode cX5_textFault 1 = .ok (.getfield 40, 3) := by decide +kernel
theorem dX5_textFault_4 : decode cX5_textFault 4 = .ok (.aload_n 0, 1) := by decide +kernel
theorem dX5_textFault_5 : decode cX5_textFault 5 = .ok (.getfield 10, 3) := by decide +kernel
theorem dX5_textFault_8 : decode cX5_textFault 8 = .ok (.invokevirtual 207, 3) := by decide +kernel
theorem dX5_textFault_11 : decode cX5_textFault 11 = .ok (.ireturn, 1) := by decide +kernel
abbrev rm_X5_textFault : Room := { frames := 5, cells := 0, slots := 0, locals := 110 }
theorem hy_X5_textFault : yX5_textFault.cls ≠ "java/lang/invoke/MethodHandle" ∧ yX5_textFault.cls ≠ "java/lang/invoke/VarHandle" ∧ (parseMethodDescriptor yX5_textFault.desc).map (fun d => d.parameters.length) = some 0 := by decide +kernel
def w_X5_textFault  (σ : z_S) (Q : Int32 → z_S → Prop) : Prop :=
  w_X3_parse σ (fun r1 σ2 => Q r1 σ2)
set_option maxHeartbeats 4000000 in
set_option maxRecDepth 100000 in
theorem c_X5_textFault {l : Launch} {D : va_G} {cI cJ cM cS : ClassId} {n0 : Nat}  {σ : z_S} {Q : Int32 → z_S → Prop} (hf : w_X5_textFault  σ Q) : z_ci l D cI cJ cM cS n0 yX5_textFault cX5_textFault 1 .int rm_X5_textFault 0 0 [.ref (n0 + 0)] σ Q := by
  refine z_ofi (by decide +kernel) (Nat.le_of_ble_eq_true rfl) (fun p e s m args below meth c hX hY => ?_)
  unfold w_X5_textFault at hf
  refine zt_L (L' := [(0, .ref (n0 + 0))]) rfl ?_
  refine zt_aload_n hX 0 dX5_textFault_0 rfl rfl ?_
  refine zt_get_X5 hX (by decide) (zE_0 _ _) 4 (by decide) kw_238 rfl rfl dX5_textFault_1 ?_
  refine zt_aload_n hX 0 dX5_textFault_4 rfl rfl ?_
  refine zt_get_X5 hX (by decide) (zE_0 _ _) 0 (by decide) kw_234 rfl rfl dX5_textFault_5 ?_
  refine zt_calliV hX hY (av := [.ref (n0 + 1)]) (c_X3_parse hf) dX5_textFault_8 rfl kw_596 kw_597 kw_598 kw_66 kw_599 ⟨rfl, rfl⟩ hy_X3_parse ⟨by decide, by decide⟩ ⟨by decide, by decide⟩ (Nat.le_of_ble_eq_true rfl) (by decide) (zE_68 _ _) rfl rfl (fun r1 σ2 hf => ?_)
  exact zt_iret hX hY dX5_textFault_11 hf

theorem dX5_load_0 : decode cX5_load 0 = .ok (.aload_n 0, 1) := by decide +kernel
theorem dX5_load_1 : decode cX5_load 1 = .ok (.getfield 40, 3) := by decide +kernel
theorem dX5_load_4 : decode cX5_load 4 = .ok (.aload_n 0, 1) := by decide +kernel
theorem dX5_load_5 : decode cX5_load 5 = .ok (.getfield 10, 3) := by decide +kernel
theorem dX5_load_8 : decode cX5_load 8 = .ok (.invokevirtual 207, 3) := by decide +kernel
theorem dX5_load_11 : decode cX5_load 11 = .ok (.ldc 104, 2) := by decide +kernel
theorem dX5_load_13 : decode cX5_load 13 = .ok (.if_icmp .eq 6, 3) := by decide +kernel
theorem dX5_load_16 : decode cX5_load 16 = .ok (.ldc 182, 2) := by decide +kernel
theorem dX5_load_18 : decode cX5_load 18 = .ok (.ireturn, 1) := by decide +kernel
theorem dX5_load_19 : decode cX5_load 19 = .ok (.aload_n 0, 1) := by decide +kernel
theorem dX5_load_20 : decode cX5_load 20 = .ok (.getfield 19, 3) := by decide +kernel
theorem dX5_load_23 : decode cX5_load 23 = .ok (.aload_n 0, 1) := by decide +kernel
theorem dX5_load_24 : decode cX5_load 24 = .ok (.getfield 10, 3) := by decide +kernel
theorem dX5_load_27 : decode cX5_load 27 = .ok (.invokevirtual 54, 3) := by decide +kernel
theorem dX5_load_30 : decode cX5_load 30 = .ok (.aload_n 0, 1) := by decide +kernel
theorem dX5_load_31 : decode cX5_load 31 = .ok (.getfield 40, 3) := by decide +kernel
theorem dX5_load_34 : decode cX5_load 34 = .ok (.aload_n 0, 1) := by decide +kernel
theorem dX5_load_35 : decode cX5_load 35 = .ok (.getfield 10, 3) := by decide +kernel
theorem dX5_load_38 : decode cX5_load 38 = .ok (.invokevirtual 211, 3) := by decide +kernel
theorem dX5_load_41 : decode cX5_load 41 = .ok (.ireturn, 1) := by decide +kernel
abbrev rm_X5_load : Room := { frames := 5, cells := 26, slots := 289, locals := 110 }
theorem hy_X5_load : yX5_load.cls ≠ "java/lang/invoke/MethodHandle" ∧ yX5_load.cls ≠ "java/lang/invoke/VarHandle" ∧ (parseMethodDescriptor yX5_load.desc).map (fun d => d.parameters.length) = some 0 := by decide +kernel
def w_X5_load  (σ : z_S) (Q : Int32 → z_S → Prop) : Prop :=
  w_X3_parse σ (fun r1 σ2 => if r1 = (-2000000000 : Int32) then (w_X2_push σ2 (fun σ5 => w_X3_apply σ5 (fun r6 σ7 => Q r6 σ7))) else (Q (-2000000003 : Int32) σ2))
set_option maxHeartbeats 4000000 in
set_option maxRecDepth 100000 in
theorem c_X5_load {l : Launch} {D : va_G} {cI cJ cM cS : ClassId} {n0 : Nat}  {σ : z_S} {Q : Int32 → z_S → Prop} (hf : w_X5_load  σ Q) : z_ci l D cI cJ cM cS n0 yX5_load cX5_load 1 .int rm_X5_load 26 289 [.ref (n0 + 0)] σ Q := by
  refine z_ofi (by decide +kernel) (Nat.le_of_ble_eq_true rfl) (fun p e s m args below meth c hX hY => ?_)
  unfold w_X5_load at hf
  refine zt_L (L' := [(0, .ref (n0 + 0))]) rfl ?_
  refine zt_aload_n hX 0 dX5_load_0 rfl rfl ?_
  refine zt_get_X5 hX (by decide) (zE_0 _ _) 4 (by decide) kw_238 rfl rfl dX5_load_1 ?_
  refine zt_aload_n hX 0 dX5_load_4 rfl rfl ?_
  refine zt_get_X5 hX (by decide) (zE_0 _ _) 0 (by decide) kw_234 rfl rfl dX5_load_5 ?_
  refine zt_calliV hX hY (av := [.ref (n0 + 1)]) (c_X3_parse hf) dX5_load_8 rfl kw_596 kw_597 kw_598 kw_66 kw_599 ⟨rfl, rfl⟩ hy_X3_parse ⟨by decide, by decide⟩ ⟨by decide, by decide⟩ (Nat.le_of_ble_eq_true rfl) (by decide) (zE_68 _ _) rfl rfl (fun r1 σ2 hf => ?_)
  refine zt_ldc hX dX5_load_11 kw_329 ?_
  refine zt_icmp_eq hX dX5_load_13 (tgt := 19) (by decide) (fun c3 => ?_) (fun c3 => ?_)
  · replace hf := z_pos hf c3
    refine zt_aload_n hX 0 dX5_load_19 rfl rfl ?_
    refine zt_get_X5 hX (by decide) (zE_0 _ _) 1 (by decide) kw_235 rfl rfl dX5_load_20 ?_
    refine zt_aload_n hX 0 dX5_load_23 rfl rfl ?_
    refine zt_get_X5 hX (by decide) (zE_0 _ _) 0 (by decide) kw_234 rfl rfl dX5_load_24 ?_
    refine zt_callvV hX hY (av := [.ref (n0 + 1)]) (c_X2_push hf) dX5_load_27 rfl kw_260 kw_261 kw_262 kw_63 kw_263 ⟨rfl, rfl⟩ hy_X2_push ⟨by decide, by decide⟩ ⟨by decide, by decide⟩ (Nat.le_of_ble_eq_true rfl) (by decide) (zE_27 _ _) rfl rfl (fun σ5 hf => ?_)
    refine zt_aload_n hX 0 dX5_load_30 rfl rfl ?_
    refine zt_get_X5 hX (by decide) (zE_0 _ _) 4 (by decide) kw_238 rfl rfl dX5_load_31 ?_
    refine zt_aload_n hX 0 dX5_load_34 rfl rfl ?_
    refine zt_get_X5 hX (by decide) (zE_0 _ _) 0 (by decide) kw_234 rfl rfl dX5_load_35 ?_
    refine zt_calliV hX hY (av := [.ref (n0 + 1)]) (c_X3_apply hf) dX5_load_38 rfl kw_634 kw_635 kw_636 kw_66 kw_637 ⟨rfl, rfl⟩ hy_X3_apply ⟨by decide, by decide⟩ ⟨by decide, by decide⟩ (Nat.le_of_ble_eq_true rfl) (by decide) (zE_68 _ _) rfl rfl (fun r6 σ7 hf => ?_)
    exact zt_iret hX hY dX5_load_41 hf
  · replace hf := z_neg hf c3
    refine zt_ldc hX dX5_load_16 kw_552 ?_
    refine zt_widen (c1 := 26) (s1 := 289) (by decide) (by decide) ?_
    exact zt_iret hX hY dX5_load_18 hf

theorem dX5_mixed_0 : decode cX5_mixed 0 = .ok (.ldc2_w 220, 3) := by decide +kernel
theorem dX5_mixed_3 : decode cX5_mixed 3 = .ok (.lload_n 0, 1) := by decide +kernel
theorem dX5_mixed_4 : decode cX5_mixed 4 = .ok (.lmul, 1) := by decide +kernel
theorem dX5_mixed_5 : decode cX5_mixed 5 = .ok (.iload_n 2, 1) := by decide +kernel
theorem dX5_mixed_6 : decode cX5_mixed 6 = .ok (.i2l, 1) := by decide +kernel
theorem dX5_mixed_7 : decode cX5_mixed 7 = .ok (.ladd, 1) := by decide +kernel
theorem dX5_mixed_8 : decode cX5_mixed 8 = .ok (.lreturn, 1) := by decide +kernel
abbrev rm_X5_mixed : Room := { frames := 0, cells := 0, slots := 0, locals := 0 }
theorem hy_X5_mixed : yX5_mixed.cls ≠ "java/lang/invoke/MethodHandle" ∧ yX5_mixed.cls ≠ "java/lang/invoke/VarHandle" ∧ (parseMethodDescriptor yX5_mixed.desc).map (fun d => d.parameters.length) = some 2 := by decide +kernel
def w_X5_mixed (a0 : Int64) (a2 : Int32) (σ : z_S) (Q : Int64 → z_S → Prop) : Prop :=
  Q (((31 : Int64) * a0) + a2.toInt64) σ
set_option maxHeartbeats 4000000 in
set_option maxRecDepth 100000 in
theorem c_X5_mixed {l : Launch} {D : va_G} {cI cJ cM cS : ClassId} {n0 : Nat} {a0 : Int64} {a2 : Int32} {σ : z_S} {Q : Int64 → z_S → Prop} (hf : w_X5_mixed a0 a2 σ Q) : z_cl l D cI cJ cM cS n0 yX5_mixed cX5_mixed 3 .long rm_X5_mixed 0 0 [.long a0, .int a2] σ Q := by
  refine z_ofl (by decide +kernel) (Nat.le_of_ble_eq_true rfl) (fun p e s m args below meth c hX hY => ?_)
  unfold w_X5_mixed at hf
  refine zt_L (L' := [(0, .long a0), (2, .int a2)]) rfl ?_
  refine zt_ldc2 hX dX5_mixed_0 kw_647 ?_
  refine zt_lload_n hX 0 dX5_mixed_3 rfl rfl ?_
  refine zt_lmul hX dX5_mixed_4 ?_
  refine zt_iload_n hX 1 dX5_mixed_5 rfl rfl ?_
  refine zt_i2l hX dX5_mixed_6 ?_
  refine zt_ladd hX dX5_mixed_7 ?_
  exact zt_lret hX hY dX5_mixed_8 hf

theorem dX5_digest_0 : decode cX5_digest 0 = .ok (.ldc2_w 214, 3) := by decide +kernel
theorem dX5_digest_3 : decode cX5_digest 3 = .ok (.aload_n 0, 1) := by decide +kernel
theorem dX5_digest_4 : decode cX5_digest 4 = .ok (.getfield 10, 3) := by decide +kernel
theorem dX5_digest_7 : decode cX5_digest 7 = .ok (.getfield 44, 3) := by decide +kernel
theorem dX5_digest_10 : decode cX5_digest 10 = .ok (.invokestatic 216, 3) := by decide +kernel
theorem dX5_digest_13 : decode cX5_digest 13 = .ok (.lstore_n 1, 1) := by decide +kernel
theorem dX5_digest_14 : decode cX5_digest 14 = .ok (.iconst 0, 1) := by decide +kernel
theorem dX5_digest_15 : decode cX5_digest 15 = .ok (.istore_n 3, 1) := by decide +kernel
theorem dX5_digest_16 : decode cX5_digest 16 = .ok (.iload_n 3, 1) := by decide +kernel
theorem dX5_digest_17 : decode cX5_digest 17 = .ok (.aload_n 0, 1) := by decide +kernel
theorem dX5_digest_18 : decode cX5_digest 18 = .ok (.getfield 10, 3) := by decide +kernel
theorem dX5_digest_21 : decode cX5_digest 21 = .ok (.getfield 44, 3) := by decide +kernel
theorem dX5_digest_24 : decode cX5_digest 24 = .ok (.if_icmp .ge 112, 3) := by decide +kernel
theorem dX5_digest_27 : decode cX5_digest 27 = .ok (.lload_n 1, 1) := by decide +kernel
theorem dX5_digest_28 : decode cX5_digest 28 = .ok (.aload_n 0, 1) := by decide +kernel
theorem dX5_digest_29 : decode cX5_digest 29 = .ok (.getfield 10, 3) := by decide +kernel
theorem dX5_digest_32 : decode cX5_digest 32 = .ok (.getfield 91, 3) := by decide +kernel
theorem dX5_digest_35 : decode cX5_digest 35 = .ok (.iload_n 3, 1) := by decide +kernel
theorem dX5_digest_36 : decode cX5_digest 36 = .ok (.iaload, 1) := by decide +kernel
theorem dX5_digest_37 : decode cX5_digest 37 = .ok (.invokestatic 216, 3) := by decide +kernel
theorem dX5_digest_40 : decode cX5_digest 40 = .ok (.lstore_n 1, 1) := by decide +kernel
theorem dX5_digest_41 : decode cX5_digest 41 = .ok (.lload_n 1, 1) := by decide +kernel
theorem dX5_digest_42 : decode cX5_digest 42 = .ok (.aload_n 0, 1) := by decide +kernel
theorem dX5_digest_43 : decode cX5_digest 43 = .ok (.getfield 10, 3) := by decide +kernel
theorem dX5_digest_46 : decode cX5_digest 46 = .ok (.getfield 67, 3) := by decide +kernel
theorem dX5_digest_49 : decode cX5_digest 49 = .ok (.iload_n 3, 1) := by decide +kernel
theorem dX5_digest_50 : decode cX5_digest 50 = .ok (.iaload, 1) := by decide +kernel
theorem dX5_digest_51 : decode cX5_digest 51 = .ok (.invokestatic 216, 3) := by decide +kernel
theorem dX5_digest_54 : decode cX5_digest 54 = .ok (.lstore_n 1, 1) := by decide +kernel
theorem dX5_digest_55 : decode cX5_digest 55 = .ok (.lload_n 1, 1) := by decide +kernel
theorem dX5_digest_56 : decode cX5_digest 56 = .ok (.aload_n 0, 1) := by decide +kernel
theorem dX5_digest_57 : decode cX5_digest 57 = .ok (.getfield 10, 3) := by decide +kernel
theorem dX5_digest_60 : decode cX5_digest 60 = .ok (.getfield 75, 3) := by decide +kernel
theorem dX5_digest_63 : decode cX5_digest 63 = .ok (.iload_n 3, 1) := by decide +kernel
theorem dX5_digest_64 : decode cX5_digest 64 = .ok (.iaload, 1) := by decide +kernel
theorem dX5_digest_65 : decode cX5_digest 65 = .ok (.invokestatic 216, 3) := by decide +kernel
theorem dX5_digest_68 : decode cX5_digest 68 = .ok (.lstore_n 1, 1) := by decide +kernel
theorem dX5_digest_69 : decode cX5_digest 69 = .ok (.lload_n 1, 1) := by decide +kernel
theorem dX5_digest_70 : decode cX5_digest 70 = .ok (.aload_n 0, 1) := by decide +kernel
theorem dX5_digest_71 : decode cX5_digest 71 = .ok (.getfield 10, 3) := by decide +kernel
theorem dX5_digest_74 : decode cX5_digest 74 = .ok (.getfield 82, 3) := by decide +kernel
theorem dX5_digest_77 : decode cX5_digest 77 = .ok (.iload_n 3, 1) := by decide +kernel
theorem dX5_digest_78 : decode cX5_digest 78 = .ok (.iaload, 1) := by decide +kernel
theorem dX5_digest_79 : decode cX5_digest 79 = .ok (.invokestatic 216, 3) := by decide +kernel
theorem dX5_digest_82 : decode cX5_digest 82 = .ok (.lstore_n 1, 1) := by decide +kernel
theorem dX5_digest_83 : decode cX5_digest 83 = .ok (.lload_n 1, 1) := by decide +kernel
theorem dX5_digest_84 : decode cX5_digest 84 = .ok (.aload_n 0, 1) := by decide +kernel
theorem dX5_digest_85 : decode cX5_digest 85 = .ok (.getfield 10, 3) := by decide +kernel
theorem dX5_digest_88 : decode cX5_digest 88 = .ok (.getfield 71, 3) := by decide +kernel
theorem dX5_digest_91 : decode cX5_digest 91 = .ok (.iload_n 3, 1) := by decide +kernel
theorem dX5_digest_92 : decode cX5_digest 92 = .ok (.iaload, 1) := by decide +kernel
theorem dX5_digest_93 : decode cX5_digest 93 = .ok (.invokestatic 216, 3) := by decide +kernel
theorem dX5_digest_96 : decode cX5_digest 96 = .ok (.lstore_n 1, 1) := by decide +kernel
theorem dX5_digest_97 : decode cX5_digest 97 = .ok (.iconst 0, 1) := by decide +kernel
theorem dX5_digest_98 : decode cX5_digest 98 = .ok (.istore 4, 2) := by decide +kernel
theorem dX5_digest_100 : decode cX5_digest 100 = .ok (.iload 4, 2) := by decide +kernel
theorem dX5_digest_102 : decode cX5_digest 102 = .ok (.bipush 13, 2) := by decide +kernel
theorem dX5_digest_104 : decode cX5_digest 104 = .ok (.if_icmp .ge 26, 3) := by decide +kernel
theorem dX5_digest_107 : decode cX5_digest 107 = .ok (.lload_n 1, 1) := by decide +kernel
theorem dX5_digest_108 : decode cX5_digest 108 = .ok (.aload_n 0, 1) := by decide +kernel
theorem dX5_digest_109 : decode cX5_digest 109 = .ok (.getfield 10, 3) := by decide +kernel
theorem dX5_digest_112 : decode cX5_digest 112 = .ok (.getfield 111, 3) := by decide +kernel
theorem dX5_digest_115 : decode cX5_digest 115 = .ok (.iload_n 3, 1) := by decide +kernel
theorem dX5_digest_116 : decode cX5_digest 116 = .ok (.aaload, 1) := by decide +kernel
theorem dX5_digest_117 : decode cX5_digest 117 = .ok (.iload 4, 2) := by decide +kernel
theorem dX5_digest_119 : decode cX5_digest 119 = .ok (.iaload, 1) := by decide +kernel
theorem dX5_digest_120 : decode cX5_digest 120 = .ok (.invokestatic 216, 3) := by decide +kernel
theorem dX5_digest_123 : decode cX5_digest 123 = .ok (.lstore_n 1, 1) := by decide +kernel
theorem dX5_digest_124 : decode cX5_digest 124 = .ok (.iinc 4 1, 3) := by decide +kernel
theorem dX5_digest_127 : decode cX5_digest 127 = .ok (.goto (-27), 3) := by decide +kernel
theorem dX5_digest_130 : decode cX5_digest 130 = .ok (.iinc 3 1, 3) := by decide +kernel
theorem dX5_digest_133 : decode cX5_digest 133 = .ok (.goto (-117), 3) := by decide +kernel
theorem dX5_digest_136 : decode cX5_digest 136 = .ok (.lload_n 1, 1) := by decide +kernel
theorem dX5_digest_137 : decode cX5_digest 137 = .ok (.aload_n 0, 1) := by decide +kernel
theorem dX5_digest_138 : decode cX5_digest 138 = .ok (.getfield 10, 3) := by decide +kernel
theorem dX5_digest_141 : decode cX5_digest 141 = .ok (.getfield 85, 3) := by decide +kernel
theorem dX5_digest_144 : decode cX5_digest 144 = .ok (.invokestatic 216, 3) := by decide +kernel
theorem dX5_digest_147 : decode cX5_digest 147 = .ok (.lstore_n 1, 1) := by decide +kernel
theorem dX5_digest_148 : decode cX5_digest 148 = .ok (.lload_n 1, 1) := by decide +kernel
theorem dX5_digest_149 : decode cX5_digest 149 = .ok (.aload_n 0, 1) := by decide +kernel
theorem dX5_digest_150 : decode cX5_digest 150 = .ok (.getfield 10, 3) := by decide +kernel
theorem dX5_digest_153 : decode cX5_digest 153 = .ok (.getfield 88, 3) := by decide +kernel
theorem dX5_digest_156 : decode cX5_digest 156 = .ok (.invokestatic 216, 3) := by decide +kernel
theorem dX5_digest_159 : decode cX5_digest 159 = .ok (.lstore_n 1, 1) := by decide +kernel
theorem dX5_digest_160 : decode cX5_digest 160 = .ok (.lload_n 1, 1) := by decide +kernel
theorem dX5_digest_161 : decode cX5_digest 161 = .ok (.aload_n 0, 1) := by decide +kernel
theorem dX5_digest_162 : decode cX5_digest 162 = .ok (.getfield 10, 3) := by decide +kernel
theorem dX5_digest_165 : decode cX5_digest 165 = .ok (.getfield 183, 3) := by decide +kernel
theorem dX5_digest_168 : decode cX5_digest 168 = .ok (.invokestatic 216, 3) := by decide +kernel
theorem dX5_digest_171 : decode cX5_digest 171 = .ok (.lstore_n 1, 1) := by decide +kernel
theorem dX5_digest_172 : decode cX5_digest 172 = .ok (.iconst 0, 1) := by decide +kernel
theorem dX5_digest_173 : decode cX5_digest 173 = .ok (.istore_n 3, 1) := by decide +kernel
theorem dX5_digest_174 : decode cX5_digest 174 = .ok (.iload_n 3, 1) := by decide +kernel
theorem dX5_digest_175 : decode cX5_digest 175 = .ok (.aload_n 0, 1) := by decide +kernel
theorem dX5_digest_176 : decode cX5_digest 176 = .ok (.getfield 10, 3) := by decide +kernel
theorem dX5_digest_179 : decode cX5_digest 179 = .ok (.getfield 183, 3) := by decide +kernel
theorem dX5_digest_182 : decode cX5_digest 182 = .ok (.if_icmp .ge 47, 3) := by decide +kernel
theorem dX5_digest_185 : decode cX5_digest 185 = .ok (.iconst 0, 1) := by decide +kernel
theorem dX5_digest_186 : decode cX5_digest 186 = .ok (.istore 4, 2) := by decide +kernel
theorem dX5_digest_188 : decode cX5_digest 188 = .ok (.iload 4, 2) := by decide +kernel
theorem dX5_digest_190 : decode cX5_digest 190 = .ok (.aload_n 0, 1) := by decide +kernel
theorem dX5_digest_191 : decode cX5_digest 191 = .ok (.getfield 10, 3) := by decide +kernel
theorem dX5_digest_194 : decode cX5_digest 194 = .ok (.getfield 44, 3) := by decide +kernel
theorem dX5_digest_197 : decode cX5_digest 197 = .ok (.if_icmp .ge 26, 3) := by decide +kernel
theorem dX5_digest_200 : decode cX5_digest 200 = .ok (.lload_n 1, 1) := by decide +kernel
theorem dX5_digest_201 : decode cX5_digest 201 = .ok (.aload_n 0, 1) := by decide +kernel
theorem dX5_digest_202 : decode cX5_digest 202 = .ok (.getfield 10, 3) := by decide +kernel
theorem dX5_digest_205 : decode cX5_digest 205 = .ok (.getfield 186, 3) := by decide +kernel
theorem dX5_digest_208 : decode cX5_digest 208 = .ok (.iload_n 3, 1) := by decide +kernel
theorem dX5_digest_209 : decode cX5_digest 209 = .ok (.aaload, 1) := by decide +kernel
theorem dX5_digest_210 : decode cX5_digest 210 = .ok (.iload 4, 2) := by decide +kernel
theorem dX5_digest_212 : decode cX5_digest 212 = .ok (.iaload, 1) := by decide +kernel
theorem dX5_digest_213 : decode cX5_digest 213 = .ok (.invokestatic 216, 3) := by decide +kernel
theorem dX5_digest_216 : decode cX5_digest 216 = .ok (.lstore_n 1, 1) := by decide +kernel
theorem dX5_digest_217 : decode cX5_digest 217 = .ok (.iinc 4 1, 3) := by decide +kernel
theorem dX5_digest_220 : decode cX5_digest 220 = .ok (.goto (-32), 3) := by decide +kernel
theorem dX5_digest_223 : decode cX5_digest 223 = .ok (.iinc 3 1, 3) := by decide +kernel
theorem dX5_digest_226 : decode cX5_digest 226 = .ok (.goto (-52), 3) := by decide +kernel
theorem dX5_digest_229 : decode cX5_digest 229 = .ok (.lload_n 1, 1) := by decide +kernel
theorem dX5_digest_230 : decode cX5_digest 230 = .ok (.lreturn, 1) := by decide +kernel
abbrev rm_X5_digest : Room := { frames := 1, cells := 0, slots := 0, locals := 22 }
theorem hy_X5_digest : yX5_digest.cls ≠ "java/lang/invoke/MethodHandle" ∧ yX5_digest.cls ≠ "java/lang/invoke/VarHandle" ∧ (parseMethodDescriptor yX5_digest.desc).map (fun d => d.parameters.length) = some 0 := by decide +kernel
def wb_X5_digest_188 (k174 : Int64 → Int32 → z_S → Prop) (Q : Int64 → z_S → Prop) (k188 : Int64 → Int32 → Int32 → z_S → Prop) (x1 : Int64) (x3 : Int32) (x4 : Int32) (σ : z_S) : Prop :=
  if (zg_i σ 1 0) ≤ x4 then (∀ y12 : Int32, y12 = (x3 + (1 : Int32)) → k174 x1 y12 σ) else (vp_in x3 8 ∧ vp_in x4 10 ∧ w_X5_mixed x1 (zg_i σ (19 + x3.toNatClampNeg) x4.toNatClampNeg) σ (fun r15 σ16 => ∀ y17 : Int32, y17 = (x4 + (1 : Int32)) → k188 r15 x3 y17 σ16))
def w_X5_digest_188 (k174 : Int64 → Int32 → z_S → Prop) (Q : Int64 → z_S → Prop) : Nat → Int64 → Int32 → Int32 → z_S → Prop
  | 0 => fun _ _ _ _ => False
  | n + 1 => wb_X5_digest_188 k174 Q (w_X5_digest_188 k174 Q n)
def wb_X5_digest_174  (Q : Int64 → z_S → Prop) (k174 : Int64 → Int32 → z_S → Prop) (x1 : Int64) (x3 : Int32) (σ : z_S) : Prop :=
  if (zg_i σ 1 3) ≤ x3 then (Q x1 σ) else (w_X5_digest_188 k174 Q 400 x1 x3 (0 : Int32) σ)
def w_X5_digest_174  (Q : Int64 → z_S → Prop) : Nat → Int64 → Int32 → z_S → Prop
  | 0 => fun _ _ _ => False
  | n + 1 => wb_X5_digest_174  Q (w_X5_digest_174  Q n)
def wb_X5_digest_100 (k16 : Int64 → Int32 → z_S → Prop) (Q : Int64 → z_S → Prop) (k100 : Int64 → Int32 → Int32 → z_S → Prop) (x1 : Int64) (x3 : Int32) (x4 : Int32) (σ : z_S) : Prop :=
  if (13 : Int32) ≤ x4 then (∀ y34 : Int32, y34 = (x3 + (1 : Int32)) → k16 x1 y34 σ) else (vp_in x3 10 ∧ vp_in x4 13 ∧ w_X5_mixed x1 (zg_i σ (8 + x3.toNatClampNeg) x4.toNatClampNeg) σ (fun r37 σ38 => ∀ y39 : Int32, y39 = (x4 + (1 : Int32)) → k100 r37 x3 y39 σ38))
def w_X5_digest_100 (k16 : Int64 → Int32 → z_S → Prop) (Q : Int64 → z_S → Prop) : Nat → Int64 → Int32 → Int32 → z_S → Prop
  | 0 => fun _ _ _ _ => False
  | n + 1 => wb_X5_digest_100 k16 Q (w_X5_digest_100 k16 Q n)
def wb_X5_digest_16  (Q : Int64 → z_S → Prop) (k16 : Int64 → Int32 → z_S → Prop) (x1 : Int64) (x3 : Int32) (σ : z_S) : Prop :=
  if (zg_i σ 1 0) ≤ x3 then (w_X5_mixed x1 (zg_i σ 1 1) σ (fun r4 σ5 => w_X5_mixed r4 (zg_i σ5 1 2) σ5 (fun r6 σ7 => w_X5_mixed r6 (zg_i σ7 1 3) σ7 (fun r8 σ9 => w_X5_digest_174 Q 400 r8 (0 : Int32) σ9)))) else (vp_in x3 10 ∧ w_X5_mixed x1 (zg_i σ 2 x3.toNatClampNeg) σ (fun r19 σ20 => vp_in x3 10 ∧ w_X5_mixed r19 (zg_i σ20 3 x3.toNatClampNeg) σ20 (fun r22 σ23 => vp_in x3 10 ∧ w_X5_mixed r22 (zg_i σ23 4 x3.toNatClampNeg) σ23 (fun r25 σ26 => vp_in x3 10 ∧ w_X5_mixed r25 (zg_i σ26 5 x3.toNatClampNeg) σ26 (fun r28 σ29 => vp_in x3 10 ∧ w_X5_mixed r28 (zg_i σ29 6 x3.toNatClampNeg) σ29 (fun r31 σ32 => w_X5_digest_100 k16 Q 400 r31 x3 (0 : Int32) σ32))))))
def w_X5_digest_16  (Q : Int64 → z_S → Prop) : Nat → Int64 → Int32 → z_S → Prop
  | 0 => fun _ _ _ => False
  | n + 1 => wb_X5_digest_16  Q (w_X5_digest_16  Q n)
def w_X5_digest  (σ : z_S) (Q : Int64 → z_S → Prop) : Prop :=
  w_X5_mixed (17 : Int64) (zg_i σ 1 0) σ (fun r1 σ2 => w_X5_digest_16 Q 400 r1 (0 : Int32) σ2)
set_option maxHeartbeats 4000000 in
set_option maxRecDepth 100000 in
theorem t_X5_digest_188 {l : Launch} {D : va_G} {cI cJ cM cS : ClassId} {n0 : Nat} {p : Program} {e : Env} {s : State} {m : MethodId} {args : Array Value} {below : List Frame} {meth : Method} {c : Code} {k174 : Int64 → Int32 → z_S → Prop} {Q : Int64 → z_S → Prop} (hX : z_X D cI cJ cM cS p s m args c cX5_digest 5 yX5_digest.cls) (hY : z_Y s meth (some .long)) (hk174 : ∀ (x1 : Int64) (x3 : Int32) (σ : z_S), k174 x1 x3 σ → z_t D cI cJ cM cS n0 p l e rm_X5_digest s m args below meth c 5 (MQ below (va_Ql Q (fun u t => z_Bq D cI cJ cM cS n0 u t) (z_Ab n0)) args s 0 0 (z_Ab n0)) 0 0 174 [(0, .ref (n0 + 0)), (1, .long x1), (3, .int x3)] [] σ) : ∀ (n : Nat) (x1 : Int64) (x3 : Int32) (x4 : Int32) (σ : z_S), w_X5_digest_188 k174 Q n x1 x3 x4 σ → z_t D cI cJ cM cS n0 p l e rm_X5_digest s m args below meth c 5 (MQ below (va_Ql Q (fun u t => z_Bq D cI cJ cM cS n0 u t) (z_Ab n0)) args s 0 0 (z_Ab n0)) 0 0 188 [(0, .ref (n0 + 0)), (1, .long x1), (3, .int x3), (4, .int x4)] [] σ := by
  intro n
  induction n with
  | zero => intro _ _ _ _ hf; exact hf.elim
  | succ n ih188 =>
    intro x1 x3 x4 σ hf
    have hf : wb_X5_digest_188 k174 Q (w_X5_digest_188 k174 Q n) x1 x3 x4 σ := hf
    unfold wb_X5_digest_188 at hf
    refine zt_iload hX 3 dX5_digest_188 rfl ?_
    refine zt_aload_n hX 0 dX5_digest_190 rfl rfl ?_
    refine zt_get_X5 hX (by decide) (zE_0 _ _) 0 (by decide) kw_234 rfl rfl dX5_digest_191 ?_
    refine zt_get_X4 hX (by decide) (zE_1 _ _) 0 (by decide) kw_88 rfl rfl dX5_digest_194 ?_
    refine zt_icmp_ge hX dX5_digest_197 (tgt := 223) (by decide) (fun c11 => ?_) (fun c11 => ?_)
    · replace hf := z_pos hf c11
      obtain ⟨y12, e12⟩ : ∃ y : Int32, y = (x3 + (1 : Int32)) := ⟨_, rfl⟩
      replace hf := hf y12 e12
      refine zt_iinc (L' := [(3, .int y12), (0, .ref (n0 + 0)), (1, .long x1), (4, .int x4)]) hX 2 dX5_digest_223 rfl (v := y12) (by rw [e12]; rfl) (by decide) rfl ?_
      refine zt_goto hX dX5_digest_226 (tgt := 174) (by decide) ?_
      exact zt_sub [1, 2, 0] rfl (hk174 _ _ _ hf)
    · replace hf := z_neg hf c11
      refine zt_lload_n hX 1 dX5_digest_200 rfl rfl ?_
      refine zt_aload_n hX 0 dX5_digest_201 rfl rfl ?_
      refine zt_get_X5 hX (by decide) (zE_0 _ _) 0 (by decide) kw_234 rfl rfl dX5_digest_202 ?_
      refine zt_get_X4 hX (by decide) (zE_1 _ _) 10 (by decide) kw_118 rfl rfl dX5_digest_205 ?_
      refine zt_iload_n hX 2 dX5_digest_208 rfl rfl ?_
      obtain ⟨h13, hf⟩ := hf
      refine zt_aaloadM hX dX5_digest_209 (by decide) rfl (k1 := 19) rfl h13 ?_
      refine zt_iload hX 3 dX5_digest_210 rfl ?_
      obtain ⟨h14, hf⟩ := hf
      refine zt_iaload hX dX5_digest_212 (z_row19 (z_lt h13)) (z_sh19 (z_lt h13)) h14 ?_
      refine zt_calllS hX hY (av := [.long x1, .int (zg_i σ (19 + x3.toNatClampNeg) x4.toNatClampNeg)]) (c_X5_mixed hf) dX5_digest_213 rfl kw_644 kw_645 kw_61 kw_646 ⟨rfl, rfl⟩ hy_X5_mixed ⟨by decide, by decide⟩ ⟨by decide, by decide⟩ (Nat.le_of_ble_eq_true rfl) (fun r15 σ16 hf => ?_)
      refine zt_lstore_n (L' := [(1, .long r15), (0, .ref (n0 + 0)), (3, .int x3), (4, .int x4)]) hX dX5_digest_216 rfl (by decide) rfl ?_
      obtain ⟨y17, e17⟩ : ∃ y : Int32, y = (x4 + (1 : Int32)) := ⟨_, rfl⟩
      replace hf := hf y17 e17
      refine zt_iinc (L' := [(4, .int y17), (1, .long r15), (0, .ref (n0 + 0)), (3, .int x3)]) hX 3 dX5_digest_217 rfl (v := y17) (by rw [e17]; rfl) (by decide) rfl ?_
      refine zt_goto hX dX5_digest_220 (tgt := 188) (by decide) ?_
      exact zt_sub [2, 1, 3, 0] rfl (ih188 _ _ _ _ hf)
set_option maxHeartbeats 4000000 in
set_option maxRecDepth 100000 in
theorem t_X5_digest_174 {l : Launch} {D : va_G} {cI cJ cM cS : ClassId} {n0 : Nat} {p : Program} {e : Env} {s : State} {m : MethodId} {args : Array Value} {below : List Frame} {meth : Method} {c : Code}  {Q : Int64 → z_S → Prop} (hX : z_X D cI cJ cM cS p s m args c cX5_digest 5 yX5_digest.cls) (hY : z_Y s meth (some .long))  : ∀ (n : Nat) (x1 : Int64) (x3 : Int32) (σ : z_S), w_X5_digest_174  Q n x1 x3 σ → z_t D cI cJ cM cS n0 p l e rm_X5_digest s m args below meth c 5 (MQ below (va_Ql Q (fun u t => z_Bq D cI cJ cM cS n0 u t) (z_Ab n0)) args s 0 0 (z_Ab n0)) 0 0 174 [(0, .ref (n0 + 0)), (1, .long x1), (3, .int x3)] [] σ := by
  intro n
  induction n with
  | zero => intro _ _ _ hf; exact hf.elim
  | succ n ih174 =>
    intro x1 x3 σ hf
    have hf : wb_X5_digest_174  Q (w_X5_digest_174  Q n) x1 x3 σ := hf
    unfold wb_X5_digest_174 at hf
    refine zt_iload_n hX 2 dX5_digest_174 rfl rfl ?_
    refine zt_aload_n hX 0 dX5_digest_175 rfl rfl ?_
    refine zt_get_X5 hX (by decide) (zE_0 _ _) 0 (by decide) kw_234 rfl rfl dX5_digest_176 ?_
    refine zt_get_X4 hX (by decide) (zE_1 _ _) 3 (by decide) kw_98 rfl rfl dX5_digest_179 ?_
    refine zt_icmp_ge hX dX5_digest_182 (tgt := 229) (by decide) (fun c10 => ?_) (fun c10 => ?_)
    · replace hf := z_pos hf c10
      refine zt_lload_n hX 1 dX5_digest_229 rfl rfl ?_
      exact zt_lret hX hY dX5_digest_230 hf
    · replace hf := z_neg hf c10
      refine zt_iconst hX dX5_digest_185 (v := (0 : Int32)) (by decide) ?_
      refine zt_istore (L' := [(4, .int (0 : Int32)), (0, .ref (n0 + 0)), (1, .long x1), (3, .int x3)]) hX dX5_digest_186 (by decide) rfl ?_
      exact zt_sub [1, 2, 3, 0] rfl (t_X5_digest_188 hX hY ih174 400 _ _ _ _ hf)
set_option maxHeartbeats 4000000 in
set_option maxRecDepth 100000 in
theorem t_X5_digest_100 {l : Launch} {D : va_G} {cI cJ cM cS : ClassId} {n0 : Nat} {p : Program} {e : Env} {s : State} {m : MethodId} {args : Array Value} {below : List Frame} {meth : Method} {c : Code} {k16 : Int64 → Int32 → z_S → Prop} {Q : Int64 → z_S → Prop} (hX : z_X D cI cJ cM cS p s m args c cX5_digest 5 yX5_digest.cls) (hY : z_Y s meth (some .long)) (hk16 : ∀ (x1 : Int64) (x3 : Int32) (σ : z_S), k16 x1 x3 σ → z_t D cI cJ cM cS n0 p l e rm_X5_digest s m args below meth c 5 (MQ below (va_Ql Q (fun u t => z_Bq D cI cJ cM cS n0 u t) (z_Ab n0)) args s 0 0 (z_Ab n0)) 0 0 16 [(0, .ref (n0 + 0)), (1, .long x1), (3, .int x3)] [] σ) : ∀ (n : Nat) (x1 : Int64) (x3 : Int32) (x4 : Int32) (σ : z_S), w_X5_digest_100 k16 Q n x1 x3 x4 σ → z_t D cI cJ cM cS n0 p l e rm_X5_digest s m args below meth c 5 (MQ below (va_Ql Q (fun u t => z_Bq D cI cJ cM cS n0 u t) (z_Ab n0)) args s 0 0 (z_Ab n0)) 0 0 100 [(0, .ref (n0 + 0)), (1, .long x1), (3, .int x3), (4, .int x4)] [] σ := by
  intro n
  induction n with
  | zero => intro _ _ _ _ hf; exact hf.elim
  | succ n ih100 =>
    intro x1 x3 x4 σ hf
    have hf : wb_X5_digest_100 k16 Q (w_X5_digest_100 k16 Q n) x1 x3 x4 σ := hf
    unfold wb_X5_digest_100 at hf
    refine zt_iload hX 3 dX5_digest_100 rfl ?_
    refine zt_bipush hX dX5_digest_102 (v := (13 : Int32)) (by decide) ?_
    refine zt_icmp_ge hX dX5_digest_104 (tgt := 130) (by decide) (fun c33 => ?_) (fun c33 => ?_)
    · replace hf := z_pos hf c33
      obtain ⟨y34, e34⟩ : ∃ y : Int32, y = (x3 + (1 : Int32)) := ⟨_, rfl⟩
      replace hf := hf y34 e34
      refine zt_iinc (L' := [(3, .int y34), (0, .ref (n0 + 0)), (1, .long x1), (4, .int x4)]) hX 2 dX5_digest_130 rfl (v := y34) (by rw [e34]; rfl) (by decide) rfl ?_
      refine zt_goto hX dX5_digest_133 (tgt := 16) (by decide) ?_
      exact zt_sub [1, 2, 0] rfl (hk16 _ _ _ hf)
    · replace hf := z_neg hf c33
      refine zt_lload_n hX 1 dX5_digest_107 rfl rfl ?_
      refine zt_aload_n hX 0 dX5_digest_108 rfl rfl ?_
      refine zt_get_X5 hX (by decide) (zE_0 _ _) 0 (by decide) kw_234 rfl rfl dX5_digest_109 ?_
      refine zt_get_X4 hX (by decide) (zE_1 _ _) 9 (by decide) kw_115 rfl rfl dX5_digest_112 ?_
      refine zt_iload_n hX 2 dX5_digest_115 rfl rfl ?_
      obtain ⟨h35, hf⟩ := hf
      refine zt_aaloadM hX dX5_digest_116 (by decide) rfl (k1 := 8) rfl h35 ?_
      refine zt_iload hX 3 dX5_digest_117 rfl ?_
      obtain ⟨h36, hf⟩ := hf
      refine zt_iaload hX dX5_digest_119 (z_row8 (z_lt h35)) (z_sh8 (z_lt h35)) h36 ?_
      refine zt_calllS hX hY (av := [.long x1, .int (zg_i σ (8 + x3.toNatClampNeg) x4.toNatClampNeg)]) (c_X5_mixed hf) dX5_digest_120 rfl kw_644 kw_645 kw_61 kw_646 ⟨rfl, rfl⟩ hy_X5_mixed ⟨by decide, by decide⟩ ⟨by decide, by decide⟩ (Nat.le_of_ble_eq_true rfl) (fun r37 σ38 hf => ?_)
      refine zt_lstore_n (L' := [(1, .long r37), (0, .ref (n0 + 0)), (3, .int x3), (4, .int x4)]) hX dX5_digest_123 rfl (by decide) rfl ?_
      obtain ⟨y39, e39⟩ : ∃ y : Int32, y = (x4 + (1 : Int32)) := ⟨_, rfl⟩
      replace hf := hf y39 e39
      refine zt_iinc (L' := [(4, .int y39), (1, .long r37), (0, .ref (n0 + 0)), (3, .int x3)]) hX 3 dX5_digest_124 rfl (v := y39) (by rw [e39]; rfl) (by decide) rfl ?_
      refine zt_goto hX dX5_digest_127 (tgt := 100) (by decide) ?_
      exact zt_sub [2, 1, 3, 0] rfl (ih100 _ _ _ _ hf)
set_option maxHeartbeats 4000000 in
set_option maxRecDepth 100000 in
theorem t_X5_digest_16 {l : Launch} {D : va_G} {cI cJ cM cS : ClassId} {n0 : Nat} {p : Program} {e : Env} {s : State} {m : MethodId} {args : Array Value} {below : List Frame} {meth : Method} {c : Code}  {Q : Int64 → z_S → Prop} (hX : z_X D cI cJ cM cS p s m args c cX5_digest 5 yX5_digest.cls) (hY : z_Y s meth (some .long))  : ∀ (n : Nat) (x1 : Int64) (x3 : Int32) (σ : z_S), w_X5_digest_16  Q n x1 x3 σ → z_t D cI cJ cM cS n0 p l e rm_X5_digest s m args below meth c 5 (MQ below (va_Ql Q (fun u t => z_Bq D cI cJ cM cS n0 u t) (z_Ab n0)) args s 0 0 (z_Ab n0)) 0 0 16 [(0, .ref (n0 + 0)), (1, .long x1), (3, .int x3)] [] σ := by
  intro n
  induction n with
  | zero => intro _ _ _ hf; exact hf.elim
  | succ n ih16 =>
    intro x1 x3 σ hf
    have hf : wb_X5_digest_16  Q (w_X5_digest_16  Q n) x1 x3 σ := hf
    unfold wb_X5_digest_16 at hf
    refine zt_iload_n hX 2 dX5_digest_16 rfl rfl ?_
    refine zt_aload_n hX 0 dX5_digest_17 rfl rfl ?_
    refine zt_get_X5 hX (by decide) (zE_0 _ _) 0 (by decide) kw_234 rfl rfl dX5_digest_18 ?_
    refine zt_get_X4 hX (by decide) (zE_1 _ _) 0 (by decide) kw_88 rfl rfl dX5_digest_21 ?_
    refine zt_icmp_ge hX dX5_digest_24 (tgt := 136) (by decide) (fun c3 => ?_) (fun c3 => ?_)
    · replace hf := z_pos hf c3
      refine zt_lload_n hX 1 dX5_digest_136 rfl rfl ?_
      refine zt_aload_n hX 0 dX5_digest_137 rfl rfl ?_
      refine zt_get_X5 hX (by decide) (zE_0 _ _) 0 (by decide) kw_234 rfl rfl dX5_digest_138 ?_
      refine zt_get_X4 hX (by decide) (zE_1 _ _) 1 (by decide) kw_93 rfl rfl dX5_digest_141 ?_
      refine zt_calllS hX hY (av := [.long x1, .int (zg_i σ 1 1)]) (c_X5_mixed hf) dX5_digest_144 rfl kw_644 kw_645 kw_61 kw_646 ⟨rfl, rfl⟩ hy_X5_mixed ⟨by decide, by decide⟩ ⟨by decide, by decide⟩ (Nat.le_of_ble_eq_true rfl) (fun r4 σ5 hf => ?_)
      refine zt_lstore_n (L' := [(1, .long r4), (0, .ref (n0 + 0)), (3, .int x3)]) hX dX5_digest_147 rfl (by decide) rfl ?_
      refine zt_lload_n hX 0 dX5_digest_148 rfl rfl ?_
      refine zt_aload_n hX 1 dX5_digest_149 rfl rfl ?_
      refine zt_get_X5 hX (by decide) (zE_0 _ _) 0 (by decide) kw_234 rfl rfl dX5_digest_150 ?_
      refine zt_get_X4 hX (by decide) (zE_1 _ _) 2 (by decide) kw_95 rfl rfl dX5_digest_153 ?_
      refine zt_calllS hX hY (av := [.long r4, .int (zg_i σ5 1 2)]) (c_X5_mixed hf) dX5_digest_156 rfl kw_644 kw_645 kw_61 kw_646 ⟨rfl, rfl⟩ hy_X5_mixed ⟨by decide, by decide⟩ ⟨by decide, by decide⟩ (Nat.le_of_ble_eq_true rfl) (fun r6 σ7 hf => ?_)
      refine zt_lstore_n (L' := [(1, .long r6), (0, .ref (n0 + 0)), (3, .int x3)]) hX dX5_digest_159 rfl (by decide) rfl ?_
      refine zt_lload_n hX 0 dX5_digest_160 rfl rfl ?_
      refine zt_aload_n hX 1 dX5_digest_161 rfl rfl ?_
      refine zt_get_X5 hX (by decide) (zE_0 _ _) 0 (by decide) kw_234 rfl rfl dX5_digest_162 ?_
      refine zt_get_X4 hX (by decide) (zE_1 _ _) 3 (by decide) kw_98 rfl rfl dX5_digest_165 ?_
      refine zt_calllS hX hY (av := [.long r6, .int (zg_i σ7 1 3)]) (c_X5_mixed hf) dX5_digest_168 rfl kw_644 kw_645 kw_61 kw_646 ⟨rfl, rfl⟩ hy_X5_mixed ⟨by decide, by decide⟩ ⟨by decide, by decide⟩ (Nat.le_of_ble_eq_true rfl) (fun r8 σ9 hf => ?_)
      refine zt_lstore_n (L' := [(1, .long r8), (0, .ref (n0 + 0)), (3, .int x3)]) hX dX5_digest_171 rfl (by decide) rfl ?_
      refine zt_iconst hX dX5_digest_172 (v := (0 : Int32)) (by decide) ?_
      refine zt_istore_n (L' := [(3, .int (0 : Int32)), (1, .long r8), (0, .ref (n0 + 0))]) hX dX5_digest_173 rfl (by decide) rfl ?_
      exact zt_sub [2, 1, 0] rfl (t_X5_digest_174 hX hY 400 _ _ _ hf)
    · replace hf := z_neg hf c3
      refine zt_lload_n hX 1 dX5_digest_27 rfl rfl ?_
      refine zt_aload_n hX 0 dX5_digest_28 rfl rfl ?_
      refine zt_get_X5 hX (by decide) (zE_0 _ _) 0 (by decide) kw_234 rfl rfl dX5_digest_29 ?_
      refine zt_get_X4 hX (by decide) (zE_1 _ _) 4 (by decide) kw_102 rfl rfl dX5_digest_32 ?_
      refine zt_iload_n hX 2 dX5_digest_35 rfl rfl ?_
      obtain ⟨h18, hf⟩ := hf
      refine zt_iaload hX dX5_digest_36 (by decide) rfl h18 ?_
      refine zt_calllS hX hY (av := [.long x1, .int (zg_i σ 2 x3.toNatClampNeg)]) (c_X5_mixed hf) dX5_digest_37 rfl kw_644 kw_645 kw_61 kw_646 ⟨rfl, rfl⟩ hy_X5_mixed ⟨by decide, by decide⟩ ⟨by decide, by decide⟩ (Nat.le_of_ble_eq_true rfl) (fun r19 σ20 hf => ?_)
      refine zt_lstore_n (L' := [(1, .long r19), (0, .ref (n0 + 0)), (3, .int x3)]) hX dX5_digest_40 rfl (by decide) rfl ?_
      refine zt_lload_n hX 0 dX5_digest_41 rfl rfl ?_
      refine zt_aload_n hX 1 dX5_digest_42 rfl rfl ?_
      refine zt_get_X5 hX (by decide) (zE_0 _ _) 0 (by decide) kw_234 rfl rfl dX5_digest_43 ?_
      refine zt_get_X4 hX (by decide) (zE_1 _ _) 5 (by decide) kw_105 rfl rfl dX5_digest_46 ?_
      refine zt_iload_n hX 2 dX5_digest_49 rfl rfl ?_
      obtain ⟨h21, hf⟩ := hf
      refine zt_iaload hX dX5_digest_50 (by decide) rfl h21 ?_
      refine zt_calllS hX hY (av := [.long r19, .int (zg_i σ20 3 x3.toNatClampNeg)]) (c_X5_mixed hf) dX5_digest_51 rfl kw_644 kw_645 kw_61 kw_646 ⟨rfl, rfl⟩ hy_X5_mixed ⟨by decide, by decide⟩ ⟨by decide, by decide⟩ (Nat.le_of_ble_eq_true rfl) (fun r22 σ23 hf => ?_)
      refine zt_lstore_n (L' := [(1, .long r22), (0, .ref (n0 + 0)), (3, .int x3)]) hX dX5_digest_54 rfl (by decide) rfl ?_
      refine zt_lload_n hX 0 dX5_digest_55 rfl rfl ?_
      refine zt_aload_n hX 1 dX5_digest_56 rfl rfl ?_
      refine zt_get_X5 hX (by decide) (zE_0 _ _) 0 (by decide) kw_234 rfl rfl dX5_digest_57 ?_
      refine zt_get_X4 hX (by decide) (zE_1 _ _) 6 (by decide) kw_107 rfl rfl dX5_digest_60 ?_
      refine zt_iload_n hX 2 dX5_digest_63 rfl rfl ?_
      obtain ⟨h24, hf⟩ := hf
      refine zt_iaload hX dX5_digest_64 (by decide) rfl h24 ?_
      refine zt_calllS hX hY (av := [.long r22, .int (zg_i σ23 4 x3.toNatClampNeg)]) (c_X5_mixed hf) dX5_digest_65 rfl kw_644 kw_645 kw_61 kw_646 ⟨rfl, rfl⟩ hy_X5_mixed ⟨by decide, by decide⟩ ⟨by decide, by decide⟩ (Nat.le_of_ble_eq_true rfl) (fun r25 σ26 hf => ?_)
      refine zt_lstore_n (L' := [(1, .long r25), (0, .ref (n0 + 0)), (3, .int x3)]) hX dX5_digest_68 rfl (by decide) rfl ?_
      refine zt_lload_n hX 0 dX5_digest_69 rfl rfl ?_
      refine zt_aload_n hX 1 dX5_digest_70 rfl rfl ?_
      refine zt_get_X5 hX (by decide) (zE_0 _ _) 0 (by decide) kw_234 rfl rfl dX5_digest_71 ?_
      refine zt_get_X4 hX (by decide) (zE_1 _ _) 7 (by decide) kw_110 rfl rfl dX5_digest_74 ?_
      refine zt_iload_n hX 2 dX5_digest_77 rfl rfl ?_
      obtain ⟨h27, hf⟩ := hf
      refine zt_iaload hX dX5_digest_78 (by decide) rfl h27 ?_
      refine zt_calllS hX hY (av := [.long r25, .int (zg_i σ26 5 x3.toNatClampNeg)]) (c_X5_mixed hf) dX5_digest_79 rfl kw_644 kw_645 kw_61 kw_646 ⟨rfl, rfl⟩ hy_X5_mixed ⟨by decide, by decide⟩ ⟨by decide, by decide⟩ (Nat.le_of_ble_eq_true rfl) (fun r28 σ29 hf => ?_)
      refine zt_lstore_n (L' := [(1, .long r28), (0, .ref (n0 + 0)), (3, .int x3)]) hX dX5_digest_82 rfl (by decide) rfl ?_
      refine zt_lload_n hX 0 dX5_digest_83 rfl rfl ?_
      refine zt_aload_n hX 1 dX5_digest_84 rfl rfl ?_
      refine zt_get_X5 hX (by decide) (zE_0 _ _) 0 (by decide) kw_234 rfl rfl dX5_digest_85 ?_
      refine zt_get_X4 hX (by decide) (zE_1 _ _) 8 (by decide) kw_112 rfl rfl dX5_digest_88 ?_
      refine zt_iload_n hX 2 dX5_digest_91 rfl rfl ?_
      obtain ⟨h30, hf⟩ := hf
      refine zt_iaload hX dX5_digest_92 (by decide) rfl h30 ?_
      refine zt_calllS hX hY (av := [.long r28, .int (zg_i σ29 6 x3.toNatClampNeg)]) (c_X5_mixed hf) dX5_digest_93 rfl kw_644 kw_645 kw_61 kw_646 ⟨rfl, rfl⟩ hy_X5_mixed ⟨by decide, by decide⟩ ⟨by decide, by decide⟩ (Nat.le_of_ble_eq_true rfl) (fun r31 σ32 hf => ?_)
      refine zt_lstore_n (L' := [(1, .long r31), (0, .ref (n0 + 0)), (3, .int x3)]) hX dX5_digest_96 rfl (by decide) rfl ?_
      refine zt_iconst hX dX5_digest_97 (v := (0 : Int32)) (by decide) ?_
      refine zt_istore (L' := [(4, .int (0 : Int32)), (1, .long r31), (0, .ref (n0 + 0)), (3, .int x3)]) hX dX5_digest_98 (by decide) rfl ?_
      exact zt_sub [2, 1, 3, 0] rfl (t_X5_digest_100 hX hY ih16 400 _ _ _ _ hf)
set_option maxHeartbeats 4000000 in
set_option maxRecDepth 100000 in
theorem c_X5_digest {l : Launch} {D : va_G} {cI cJ cM cS : ClassId} {n0 : Nat}  {σ : z_S} {Q : Int64 → z_S → Prop} (hf : w_X5_digest  σ Q) : z_cl l D cI cJ cM cS n0 yX5_digest cX5_digest 5 .long rm_X5_digest 0 0 [.ref (n0 + 0)] σ Q := by
  refine z_ofl (by decide +kernel) (Nat.le_of_ble_eq_true rfl) (fun p e s m args below meth c hX hY => ?_)
  unfold w_X5_digest at hf
  refine zt_L (L' := [(0, .ref (n0 + 0))]) rfl ?_
  refine zt_ldc2 hX dX5_digest_0 kw_643 ?_
  refine zt_aload_n hX 0 dX5_digest_3 rfl rfl ?_
  refine zt_get_X5 hX (by decide) (zE_0 _ _) 0 (by decide) kw_234 rfl rfl dX5_digest_4 ?_
  refine zt_get_X4 hX (by decide) (zE_1 _ _) 0 (by decide) kw_88 rfl rfl dX5_digest_7 ?_
  refine zt_calllS hX hY (av := [.long (17 : Int64), .int (zg_i σ 1 0)]) (c_X5_mixed hf) dX5_digest_10 rfl kw_644 kw_645 kw_61 kw_646 ⟨rfl, rfl⟩ hy_X5_mixed ⟨by decide, by decide⟩ ⟨by decide, by decide⟩ (Nat.le_of_ble_eq_true rfl) (fun r1 σ2 hf => ?_)
  refine zt_lstore_n (L' := [(1, .long r1), (0, .ref (n0 + 0))]) hX dX5_digest_13 rfl (by decide) rfl ?_
  refine zt_iconst hX dX5_digest_14 (v := (0 : Int32)) (by decide) ?_
  refine zt_istore_n (L' := [(3, .int (0 : Int32)), (1, .long r1), (0, .ref (n0 + 0))]) hX dX5_digest_15 rfl (by decide) rfl ?_
  exact zt_sub [2, 1, 0] rfl (t_X5_digest_16 hX hY 400 _ _ _ hf)

theorem dX6_in_0 : decode cX6_in 0 = .ok (.iload_n 0, 1) := by decide +kernel
theorem dX6_in_1 : decode cX6_in 1 = .ok (.iload_n 1, 1) := by decide +kernel
theorem dX6_in_2 : decode cX6_in 2 = .ok (.if_icmp .lt 12, 3) := by decide +kernel
theorem dX6_in_5 : decode cX6_in 5 = .ok (.iload_n 0, 1) := by decide +kernel
theorem dX6_in_6 : decode cX6_in 6 = .ok (.iload_n 2, 1) := by decide +kernel
theorem dX6_in_7 : decode cX6_in 7 = .ok (.if_icmp .gt 7, 3) := by decide +kernel
theorem dX6_in_10 : decode cX6_in 10 = .ok (.iconst 1, 1) := by decide +kernel
theorem dX6_in_11 : decode cX6_in 11 = .ok (.goto 4, 3) := by decide +kernel
theorem dX6_in_14 : decode cX6_in 14 = .ok (.iconst 0, 1) := by decide +kernel
theorem dX6_in_15 : decode cX6_in 15 = .ok (.ireturn, 1) := by decide +kernel
abbrev rm_X6_in : Room := { frames := 0, cells := 0, slots := 0, locals := 0 }
theorem hy_X6_in : yX6_in.cls ≠ "java/lang/invoke/MethodHandle" ∧ yX6_in.cls ≠ "java/lang/invoke/VarHandle" ∧ (parseMethodDescriptor yX6_in.desc).map (fun d => d.parameters.length) = some 3 := by decide +kernel
def w_X6_in (a0 : Int32) (a1 : Int32) (a2 : Int32) (σ : z_S) (Q : Int32 → z_S → Prop) : Prop :=
  if a0 < a1 then (((0 : Int32) = 0 ∨ (0 : Int32) = 1) ∧ Q (0 : Int32) σ) else (if a2 < a0 then (((0 : Int32) = 0 ∨ (0 : Int32) = 1) ∧ Q (0 : Int32) σ) else (((1 : Int32) = 0 ∨ (1 : Int32) = 1) ∧ Q (1 : Int32) σ))
set_option maxHeartbeats 4000000 in
set_option maxRecDepth 100000 in
theorem c_X6_in {l : Launch} {D : va_G} {cI cJ cM cS : ClassId} {n0 : Nat} {a0 : Int32} {a1 : Int32} {a2 : Int32} {σ : z_S} {Q : Int32 → z_S → Prop} (hf : w_X6_in a0 a1 a2 σ Q) : z_ci l D cI cJ cM cS n0 yX6_in cX6_in 3 .boolean rm_X6_in 0 0 [.int a0, .int a1, .int a2] σ Q := by
  refine z_ofi (by decide +kernel) (Nat.le_of_ble_eq_true rfl) (fun p e s m args below meth c hX hY => ?_)
  unfold w_X6_in at hf
  refine zt_L (L' := [(0, .int a0), (1, .int a1), (2, .int a2)]) rfl ?_
  refine zt_iload_n hX 0 dX6_in_0 rfl rfl ?_
  refine zt_iload_n hX 1 dX6_in_1 rfl rfl ?_
  refine zt_icmp_lt hX dX6_in_2 (tgt := 14) (by decide) (fun c1 => ?_) (fun c1 => ?_)
  · replace hf := z_pos hf c1
    refine zt_iconst hX dX6_in_14 (v := (0 : Int32)) (by decide) ?_
    exact zt_zret hX hY dX6_in_15 hf
  · replace hf := z_neg hf c1
    refine zt_iload_n hX 0 dX6_in_5 rfl rfl ?_
    refine zt_iload_n hX 2 dX6_in_6 rfl rfl ?_
    refine zt_icmp_gt hX dX6_in_7 (tgt := 14) (by decide) (fun c2 => ?_) (fun c2 => ?_)
    · replace hf := z_pos hf c2
      refine zt_iconst hX dX6_in_14 (v := (0 : Int32)) (by decide) ?_
      exact zt_zret hX hY dX6_in_15 hf
    · replace hf := z_neg hf c2
      refine zt_iconst hX dX6_in_10 (v := (1 : Int32)) (by decide) ?_
      refine zt_goto hX dX6_in_11 (tgt := 15) (by decide) ?_
      exact zt_zret hX hY dX6_in_15 hf

theorem dX6_copies_0 : decode cX6_copies 0 = .ok (.iconst 0, 1) := by decide +kernel
theorem dX6_copies_1 : decode cX6_copies 1 = .ok (.istore_n 3, 1) := by decide +kernel
theorem dX6_copies_2 : decode cX6_copies 2 = .ok (.iload_n 3, 1) := by decide +kernel
theorem dX6_copies_3 : decode cX6_copies 3 = .ok (.sipush 264, 3) := by decide +kernel
theorem dX6_copies_6 : decode cX6_copies 6 = .ok (.if_icmp .ge 33, 3) := by decide +kernel
theorem dX6_copies_9 : decode cX6_copies 9 = .ok (.aload_n 0, 1) := by decide +kernel
theorem dX6_copies_10 : decode cX6_copies 10 = .ok (.getfield 7, 3) := by decide +kernel
theorem dX6_copies_13 : decode cX6_copies 13 = .ok (.sipush 264, 3) := by decide +kernel
theorem dX6_copies_16 : decode cX6_copies 16 = .ok (.iload_n 2, 1) := by decide +kernel
theorem dX6_copies_17 : decode cX6_copies 17 = .ok (.imul, 1) := by decide +kernel
theorem dX6_copies_18 : decode cX6_copies 18 = .ok (.iload_n 3, 1) := by decide +kernel
theorem dX6_copies_19 : decode cX6_copies 19 = .ok (.iadd, 1) := by decide +kernel
theorem dX6_copies_20 : decode cX6_copies 20 = .ok (.aload_n 0, 1) := by decide +kernel
theorem dX6_copies_21 : decode cX6_copies 21 = .ok (.getfield 7, 3) := by decide +kernel
theorem dX6_copies_24 : decode cX6_copies 24 = .ok (.sipush 264, 3) := by decide +kernel
theorem dX6_copies_27 : decode cX6_copies 27 = .ok (.iload_n 1, 1) := by decide +kernel
theorem dX6_copies_28 : decode cX6_copies 28 = .ok (.imul, 1) := by decide +kernel
theorem dX6_copies_29 : decode cX6_copies 29 = .ok (.iload_n 3, 1) := by decide +kernel
theorem dX6_copies_30 : decode cX6_copies 30 = .ok (.iadd, 1) := by decide +kernel
theorem dX6_copies_31 : decode cX6_copies 31 = .ok (.iaload, 1) := by decide +kernel
theorem dX6_copies_32 : decode cX6_copies 32 = .ok (.iastore, 1) := by decide +kernel
theorem dX6_copies_33 : decode cX6_copies 33 = .ok (.iinc 3 1, 3) := by decide +kernel
theorem dX6_copies_36 : decode cX6_copies 36 = .ok (.goto (-34), 3) := by decide +kernel
theorem dX6_copies_39 : decode cX6_copies 39 = .ok (.return_, 1) := by decide +kernel
abbrev rm_X6_copies : Room := { frames := 0, cells := 0, slots := 0, locals := 0 }
theorem hy_X6_copies : yX6_copies.cls ≠ "java/lang/invoke/MethodHandle" ∧ yX6_copies.cls ≠ "java/lang/invoke/VarHandle" ∧ (parseMethodDescriptor yX6_copies.desc).map (fun d => d.parameters.length) = some 2 := by decide +kernel
def wb_X6_copies_2  (Q : z_S → Prop) (k2 : Int32 → Int32 → Int32 → z_S → Prop) (x1 : Int32) (x2 : Int32) (x3 : Int32) (σ : z_S) : Prop :=
  if (264 : Int32) ≤ x3 then (Q σ) else (vp_in (((264 : Int32) * x1) + x3) 1584 ∧ vp_in (((264 : Int32) * x2) + x3) 1584 ∧ ∀ σ4 : z_S, σ4 = zs_i σ 74 (((264 : Int32) * x2) + x3).toNatClampNeg (zg_i σ 74 (((264 : Int32) * x1) + x3).toNatClampNeg) → ∀ y5 : Int32, y5 = (x3 + (1 : Int32)) → k2 x1 x2 y5 σ4)
def w_X6_copies_2  (Q : z_S → Prop) : Nat → Int32 → Int32 → Int32 → z_S → Prop
  | 0 => fun _ _ _ _ => False
  | n + 1 => wb_X6_copies_2  Q (w_X6_copies_2  Q n)
def w_X6_copies (a1 : Int32) (a2 : Int32) (σ : z_S) (Q : z_S → Prop) : Prop :=
  w_X6_copies_2 Q 400 a1 a2 (0 : Int32) σ
set_option maxHeartbeats 4000000 in
set_option maxRecDepth 100000 in
theorem t_X6_copies_2 {l : Launch} {D : va_G} {cI cJ cM cS : ClassId} {n0 : Nat} {p : Program} {e : Env} {s : State} {m : MethodId} {args : Array Value} {below : List Frame} {meth : Method} {c : Code}  {Q : z_S → Prop} (hX : z_X D cI cJ cM cS p s m args c cX6_copies 4 yX6_copies.cls) (hY : z_Y s meth none)  : ∀ (n : Nat) (x1 : Int32) (x2 : Int32) (x3 : Int32) (σ : z_S), w_X6_copies_2  Q n x1 x2 x3 σ → z_t D cI cJ cM cS n0 p l e rm_X6_copies s m args below meth c 4 (MQ below (va_Qv Q (fun u t => z_Bq D cI cJ cM cS n0 u t) (z_Ab n0)) args s 0 0 (z_Ab n0)) 0 0 2 [(0, .ref (n0 + 73)), (1, .int x1), (2, .int x2), (3, .int x3)] [] σ := by
  intro n
  induction n with
  | zero => intro _ _ _ _ hf; exact hf.elim
  | succ n ih2 =>
    intro x1 x2 x3 σ hf
    have hf : wb_X6_copies_2  Q (w_X6_copies_2  Q n) x1 x2 x3 σ := hf
    unfold wb_X6_copies_2 at hf
    refine zt_iload_n hX 3 dX6_copies_2 rfl rfl ?_
    refine zt_sipush hX dX6_copies_3 (v := (264 : Int32)) (by decide) ?_
    refine zt_icmp_ge hX dX6_copies_6 (tgt := 39) (by decide) (fun c1 => ?_) (fun c1 => ?_)
    · replace hf := z_pos hf c1
      exact zt_vret hX hY dX6_copies_39 hf
    · replace hf := z_neg hf c1
      refine zt_aload_n hX 0 dX6_copies_9 rfl rfl ?_
      refine zt_get_X6 hX (by decide) (zE_73 _ _) 0 (by decide) kw_654 rfl rfl dX6_copies_10 ?_
      refine zt_sipush hX dX6_copies_13 (v := (264 : Int32)) (by decide) ?_
      refine zt_iload_n hX 2 dX6_copies_16 rfl rfl ?_
      refine zt_imul hX dX6_copies_17 ?_
      refine zt_iload_n hX 3 dX6_copies_18 rfl rfl ?_
      refine zt_iadd hX dX6_copies_19 ?_
      refine zt_aload_n hX 0 dX6_copies_20 rfl rfl ?_
      refine zt_get_X6 hX (by decide) (zE_73 _ _) 0 (by decide) kw_654 rfl rfl dX6_copies_21 ?_
      refine zt_sipush hX dX6_copies_24 (v := (264 : Int32)) (by decide) ?_
      refine zt_iload_n hX 1 dX6_copies_27 rfl rfl ?_
      refine zt_imul hX dX6_copies_28 ?_
      refine zt_iload_n hX 3 dX6_copies_29 rfl rfl ?_
      refine zt_iadd hX dX6_copies_30 ?_
      obtain ⟨h2, hf⟩ := hf
      refine zt_iaload hX dX6_copies_31 (by decide) rfl h2 ?_
      obtain ⟨h3, hf⟩ := hf
      refine zt_iastore hX dX6_copies_32 (by decide) rfl h3 ?_
      refine zt_nms (fun σ4 d4 => ?_)
      replace hf := hf σ4 d4
      obtain ⟨y5, e5⟩ : ∃ y : Int32, y = (x3 + (1 : Int32)) := ⟨_, rfl⟩
      replace hf := hf y5 e5
      refine zt_iinc (L' := [(3, .int y5), (0, .ref (n0 + 73)), (1, .int x1), (2, .int x2)]) hX 3 dX6_copies_33 rfl (v := y5) (by rw [e5]; rfl) (by decide) rfl ?_
      refine zt_goto hX dX6_copies_36 (tgt := 2) (by decide) ?_
      exact zt_sub [1, 2, 3, 0] rfl (ih2 _ _ _ _ hf)
set_option maxHeartbeats 4000000 in
set_option maxRecDepth 100000 in
theorem c_X6_copies {l : Launch} {D : va_G} {cI cJ cM cS : ClassId} {n0 : Nat} {a1 : Int32} {a2 : Int32} {σ : z_S} {Q : z_S → Prop} (hf : w_X6_copies a1 a2 σ Q) : z_cv l D cI cJ cM cS n0 yX6_copies cX6_copies 4 rm_X6_copies 0 0 [.ref (n0 + 73), .int a1, .int a2] σ Q := by
  refine z_ofv (by decide +kernel) (Nat.le_of_ble_eq_true rfl) (fun p e s m args below meth c hX hY => ?_)
  unfold w_X6_copies at hf
  refine zt_L (L' := [(0, .ref (n0 + 73)), (1, .int a1), (2, .int a2)]) rfl ?_
  refine zt_iconst hX dX6_copies_0 (v := (0 : Int32)) (by decide) ?_
  refine zt_istore_n (L' := [(3, .int (0 : Int32)), (0, .ref (n0 + 73)), (1, .int a1), (2, .int a2)]) hX dX6_copies_1 rfl (by decide) rfl ?_
  exact zt_sub [1, 2, 3, 0] rfl (t_X6_copies_2 hX hY 400 _ _ _ _ hf)

theorem dX6_saves_0 : decode cX6_saves 0 = .ok (.iconst 1, 1) := by decide +kernel
theorem dX6_saves_1 : decode cX6_saves 1 = .ok (.istore_n 1, 1) := by decide +kernel
theorem dX6_saves_2 : decode cX6_saves 2 = .ok (.iload_n 1, 1) := by decide +kernel
theorem dX6_saves_3 : decode cX6_saves 3 = .ok (.iconst 5, 1) := by decide +kernel
theorem dX6_saves_4 : decode cX6_saves 4 = .ok (.if_icmp .ge 25, 3) := by decide +kernel
theorem dX6_saves_7 : decode cX6_saves 7 = .ok (.aload_n 0, 1) := by decide +kernel
theorem dX6_saves_8 : decode cX6_saves 8 = .ok (.getfield 32, 3) := by decide +kernel
theorem dX6_saves_11 : decode cX6_saves 11 = .ok (.iconst 5, 1) := by decide +kernel
theorem dX6_saves_12 : decode cX6_saves 12 = .ok (.if_icmp .ne 17, 3) := by decide +kernel
theorem dX6_saves_15 : decode cX6_saves 15 = .ok (.aload_n 0, 1) := by decide +kernel
theorem dX6_saves_16 : decode cX6_saves 16 = .ok (.iload_n 1, 1) := by decide +kernel
theorem dX6_saves_17 : decode cX6_saves 17 = .ok (.iconst 1, 1) := by decide +kernel
theorem dX6_saves_18 : decode cX6_saves 18 = .ok (.iadd, 1) := by decide +kernel
theorem dX6_saves_19 : decode cX6_saves 19 = .ok (.iload_n 1, 1) := by decide +kernel
theorem dX6_saves_20 : decode cX6_saves 20 = .ok (.invokevirtual 36, 3) := by decide +kernel
theorem dX6_saves_23 : decode cX6_saves 23 = .ok (.iinc 1 1, 3) := by decide +kernel
theorem dX6_saves_26 : decode cX6_saves 26 = .ok (.goto (-24), 3) := by decide +kernel
theorem dX6_saves_29 : decode cX6_saves 29 = .ok (.aload_n 0, 1) := by decide +kernel
theorem dX6_saves_30 : decode cX6_saves 30 = .ok (.dup, 1) := by decide +kernel
theorem dX6_saves_31 : decode cX6_saves 31 = .ok (.getfield 32, 3) := by decide +kernel
theorem dX6_saves_34 : decode cX6_saves 34 = .ok (.aload_n 0, 1) := by decide +kernel
theorem dX6_saves_35 : decode cX6_saves 35 = .ok (.getfield 32, 3) := by decide +kernel
theorem dX6_saves_38 : decode cX6_saves 38 = .ok (.iconst 5, 1) := by decide +kernel
theorem dX6_saves_39 : decode cX6_saves 39 = .ok (.if_icmp .ne 7, 3) := by decide +kernel
theorem dX6_saves_42 : decode cX6_saves 42 = .ok (.iconst 1, 1) := by decide +kernel
theorem dX6_saves_43 : decode cX6_saves 43 = .ok (.goto 4, 3) := by decide +kernel
theorem dX6_saves_46 : decode cX6_saves 46 = .ok (.iconst 0, 1) := by decide +kernel
theorem dX6_saves_47 : decode cX6_saves 47 = .ok (.isub, 1) := by decide +kernel
theorem dX6_saves_48 : decode cX6_saves 48 = .ok (.putfield 32, 3) := by decide +kernel
theorem dX6_saves_51 : decode cX6_saves 51 = .ok (.aload_n 0, 1) := by decide +kernel
theorem dX6_saves_52 : decode cX6_saves 52 = .ok (.dup, 1) := by decide +kernel
theorem dX6_saves_53 : decode cX6_saves 53 = .ok (.getfield 32, 3) := by decide +kernel
theorem dX6_saves_56 : decode cX6_saves 56 = .ok (.iconst 1, 1) := by decide +kernel
theorem dX6_saves_57 : decode cX6_saves 57 = .ok (.iadd, 1) := by decide +kernel
theorem dX6_saves_58 : decode cX6_saves 58 = .ok (.putfield 32, 3) := by decide +kernel
theorem dX6_saves_61 : decode cX6_saves 61 = .ok (.aload_n 0, 1) := by decide +kernel
theorem dX6_saves_62 : decode cX6_saves 62 = .ok (.iconst 0, 1) := by decide +kernel
theorem dX6_saves_63 : decode cX6_saves 63 = .ok (.aload_n 0, 1) := by decide +kernel
theorem dX6_saves_64 : decode cX6_saves 64 = .ok (.getfield 32, 3) := by decide +kernel
theorem dX6_saves_67 : decode cX6_saves 67 = .ok (.invokevirtual 36, 3) := by decide +kernel
theorem dX6_saves_70 : decode cX6_saves 70 = .ok (.return_, 1) := by decide +kernel
abbrev rm_X6_saves : Room := { frames := 1, cells := 0, slots := 0, locals := 23 }
theorem hy_X6_saves : yX6_saves.cls ≠ "java/lang/invoke/MethodHandle" ∧ yX6_saves.cls ≠ "java/lang/invoke/VarHandle" ∧ (parseMethodDescriptor yX6_saves.desc).map (fun d => d.parameters.length) = some 0 := by decide +kernel
def w_X6_saves_47  (Q : z_S → Prop) (s0 : Int32) (s1 : Int32) (σ : z_S) : Prop :=
  ∀ σ3 : z_S, σ3 = zs_i σ 73 1 (s1 - s0) → ∀ σ4 : z_S, σ4 = zs_i σ3 73 1 ((zg_i σ3 73 1) + (1 : Int32)) → w_X6_copies (0 : Int32) (zg_i σ4 73 1) σ4 (fun σ6 => Q σ6)
def w_X6_saves_29  (Q : z_S → Prop)  (σ : z_S) : Prop :=
  if (zg_i σ 73 1) = (5 : Int32) then (w_X6_saves_47 Q (1 : Int32) (zg_i σ 73 1) σ) else (w_X6_saves_47 Q (0 : Int32) (zg_i σ 73 1) σ)
def wb_X6_saves_2  (Q : z_S → Prop) (k2 : Int32 → z_S → Prop) (x1 : Int32) (σ : z_S) : Prop :=
  if (5 : Int32) ≤ x1 then (w_X6_saves_29 Q σ) else (if (zg_i σ 73 1) = (5 : Int32) then (w_X6_copies (x1 + (1 : Int32)) x1 σ (fun σ9 => ∀ y10 : Int32, y10 = (x1 + (1 : Int32)) → k2 y10 σ9)) else (w_X6_saves_29 Q σ))
def w_X6_saves_2  (Q : z_S → Prop) : Nat → Int32 → z_S → Prop
  | 0 => fun _ _ => False
  | n + 1 => wb_X6_saves_2  Q (w_X6_saves_2  Q n)
def w_X6_saves  (σ : z_S) (Q : z_S → Prop) : Prop :=
  w_X6_saves_2 Q 400 (1 : Int32) σ
set_option maxHeartbeats 4000000 in
set_option maxRecDepth 100000 in
theorem t_X6_saves_47 {l : Launch} {D : va_G} {cI cJ cM cS : ClassId} {n0 : Nat} {p : Program} {e : Env} {s : State} {m : MethodId} {args : Array Value} {below : List Frame} {meth : Method} {c : Code}  {Q : z_S → Prop} (hX : z_X D cI cJ cM cS p s m args c cX6_saves 2 yX6_saves.cls) (hY : z_Y s meth none)  (s0 : Int32) (s1 : Int32) (σ : z_S) (hf : w_X6_saves_47  Q s0 s1 σ) : z_t D cI cJ cM cS n0 p l e rm_X6_saves s m args below meth c 2 (MQ below (va_Qv Q (fun u t => z_Bq D cI cJ cM cS n0 u t) (z_Ab n0)) args s 0 0 (z_Ab n0)) 0 0 47 [(0, .ref (n0 + 73))] [.int s0, .int s1, .ref (n0 + 73)] σ := by
  unfold w_X6_saves_47 at hf
  refine zt_isub hX dX6_saves_47 ?_
  refine zt_puti_X6 hX (by decide) (zE_73 _ _) 1 (by decide) kw_655 rfl rfl (Nat.le_of_ble_eq_true rfl) rfl rfl dX6_saves_48 ?_
  refine zt_nms (fun σ3 d3 => ?_)
  replace hf := hf σ3 d3
  refine zt_aload_n hX 0 dX6_saves_51 rfl rfl ?_
  refine zt_dup hX dX6_saves_52 rfl ?_
  refine zt_get_X6 hX (by decide) (zE_73 _ _) 1 (by decide) kw_655 rfl rfl dX6_saves_53 ?_
  refine zt_iconst hX dX6_saves_56 (v := (1 : Int32)) (by decide) ?_
  refine zt_iadd hX dX6_saves_57 ?_
  refine zt_puti_X6 hX (by decide) (zE_73 _ _) 1 (by decide) kw_655 rfl rfl (Nat.le_of_ble_eq_true rfl) rfl rfl dX6_saves_58 ?_
  refine zt_nms (fun σ4 d4 => ?_)
  replace hf := hf σ4 d4
  refine zt_aload_n hX 0 dX6_saves_61 rfl rfl ?_
  refine zt_iconst hX dX6_saves_62 (v := (0 : Int32)) (by decide) ?_
  refine zt_aload_n hX 0 dX6_saves_63 rfl rfl ?_
  refine zt_get_X6 hX (by decide) (zE_73 _ _) 1 (by decide) kw_655 rfl rfl dX6_saves_64 ?_
  refine zt_callvV hX hY (av := [.int (0 : Int32), .int (zg_i σ4 73 1)]) (c_X6_copies hf) dX6_saves_67 rfl kw_711 kw_713 kw_22 kw_67 kw_714 ⟨rfl, rfl⟩ hy_X6_copies ⟨by decide, by decide⟩ ⟨by decide, by decide⟩ (Nat.le_of_ble_eq_true rfl) (by decide) (zE_73 _ _) rfl rfl (fun σ6 hf => ?_)
  exact zt_vret hX hY dX6_saves_70 hf
set_option maxHeartbeats 4000000 in
set_option maxRecDepth 100000 in
theorem t_X6_saves_29 {l : Launch} {D : va_G} {cI cJ cM cS : ClassId} {n0 : Nat} {p : Program} {e : Env} {s : State} {m : MethodId} {args : Array Value} {below : List Frame} {meth : Method} {c : Code}  {Q : z_S → Prop} (hX : z_X D cI cJ cM cS p s m args c cX6_saves 2 yX6_saves.cls) (hY : z_Y s meth none)   (σ : z_S) (hf : w_X6_saves_29  Q  σ) : z_t D cI cJ cM cS n0 p l e rm_X6_saves s m args below meth c 2 (MQ below (va_Qv Q (fun u t => z_Bq D cI cJ cM cS n0 u t) (z_Ab n0)) args s 0 0 (z_Ab n0)) 0 0 29 [(0, .ref (n0 + 73))] [] σ := by
  unfold w_X6_saves_29 at hf
  refine zt_aload_n hX 0 dX6_saves_29 rfl rfl ?_
  refine zt_dup hX dX6_saves_30 rfl ?_
  refine zt_get_X6 hX (by decide) (zE_73 _ _) 1 (by decide) kw_655 rfl rfl dX6_saves_31 ?_
  refine zt_aload_n hX 0 dX6_saves_34 rfl rfl ?_
  refine zt_get_X6 hX (by decide) (zE_73 _ _) 1 (by decide) kw_655 rfl rfl dX6_saves_35 ?_
  refine zt_iconst hX dX6_saves_38 (v := (5 : Int32)) (by decide) ?_
  refine zt_icmp_ne hX dX6_saves_39 (tgt := 46) (by decide) (fun c2 => ?_) (fun c2 => ?_)
  · replace hf := z_neg hf c2
    refine zt_iconst hX dX6_saves_46 (v := (0 : Int32)) (by decide) ?_
    exact zt_sub [0] rfl (t_X6_saves_47 hX hY _ _ _ hf)
  · replace hf := z_pos hf c2
    refine zt_iconst hX dX6_saves_42 (v := (1 : Int32)) (by decide) ?_
    refine zt_goto hX dX6_saves_43 (tgt := 47) (by decide) ?_
    exact zt_sub [0] rfl (t_X6_saves_47 hX hY _ _ _ hf)
set_option maxHeartbeats 4000000 in
set_option maxRecDepth 100000 in
theorem t_X6_saves_2 {l : Launch} {D : va_G} {cI cJ cM cS : ClassId} {n0 : Nat} {p : Program} {e : Env} {s : State} {m : MethodId} {args : Array Value} {below : List Frame} {meth : Method} {c : Code}  {Q : z_S → Prop} (hX : z_X D cI cJ cM cS p s m args c cX6_saves 2 yX6_saves.cls) (hY : z_Y s meth none)  : ∀ (n : Nat) (x1 : Int32) (σ : z_S), w_X6_saves_2  Q n x1 σ → z_t D cI cJ cM cS n0 p l e rm_X6_saves s m args below meth c 2 (MQ below (va_Qv Q (fun u t => z_Bq D cI cJ cM cS n0 u t) (z_Ab n0)) args s 0 0 (z_Ab n0)) 0 0 2 [(0, .ref (n0 + 73)), (1, .int x1)] [] σ := by
  intro n
  induction n with
  | zero => intro _ _ hf; exact hf.elim
  | succ n ih2 =>
    intro x1 σ hf
    have hf : wb_X6_saves_2  Q (w_X6_saves_2  Q n) x1 σ := hf
    unfold wb_X6_saves_2 at hf
    refine zt_iload_n hX 1 dX6_saves_2 rfl rfl ?_
    refine zt_iconst hX dX6_saves_3 (v := (5 : Int32)) (by decide) ?_
    refine zt_icmp_ge hX dX6_saves_4 (tgt := 29) (by decide) (fun c1 => ?_) (fun c1 => ?_)
    · replace hf := z_pos hf c1
      exact zt_sub [0] rfl (t_X6_saves_29 hX hY _ hf)
    · replace hf := z_neg hf c1
      refine zt_aload_n hX 0 dX6_saves_7 rfl rfl ?_
      refine zt_get_X6 hX (by decide) (zE_73 _ _) 1 (by decide) kw_655 rfl rfl dX6_saves_8 ?_
      refine zt_iconst hX dX6_saves_11 (v := (5 : Int32)) (by decide) ?_
      refine zt_icmp_ne hX dX6_saves_12 (tgt := 29) (by decide) (fun c7 => ?_) (fun c7 => ?_)
      · replace hf := z_neg hf c7
        exact zt_sub [0] rfl (t_X6_saves_29 hX hY _ hf)
      · replace hf := z_pos hf c7
        refine zt_aload_n hX 0 dX6_saves_15 rfl rfl ?_
        refine zt_iload_n hX 1 dX6_saves_16 rfl rfl ?_
        refine zt_iconst hX dX6_saves_17 (v := (1 : Int32)) (by decide) ?_
        refine zt_iadd hX dX6_saves_18 ?_
        refine zt_iload_n hX 1 dX6_saves_19 rfl rfl ?_
        refine zt_callvV hX hY (av := [.int (x1 + (1 : Int32)), .int x1]) (c_X6_copies hf) dX6_saves_20 rfl kw_711 kw_713 kw_22 kw_67 kw_714 ⟨rfl, rfl⟩ hy_X6_copies ⟨by decide, by decide⟩ ⟨by decide, by decide⟩ (Nat.le_of_ble_eq_true rfl) (by decide) (zE_73 _ _) rfl rfl (fun σ9 hf => ?_)
        obtain ⟨y10, e10⟩ : ∃ y : Int32, y = (x1 + (1 : Int32)) := ⟨_, rfl⟩
        replace hf := hf y10 e10
        refine zt_iinc (L' := [(1, .int y10), (0, .ref (n0 + 73))]) hX 1 dX6_saves_23 rfl (v := y10) (by rw [e10]; rfl) (by decide) rfl ?_
        refine zt_goto hX dX6_saves_26 (tgt := 2) (by decide) ?_
        exact zt_sub [1, 0] rfl (ih2 _ _ hf)
set_option maxHeartbeats 4000000 in
set_option maxRecDepth 100000 in
theorem c_X6_saves {l : Launch} {D : va_G} {cI cJ cM cS : ClassId} {n0 : Nat}  {σ : z_S} {Q : z_S → Prop} (hf : w_X6_saves  σ Q) : z_cv l D cI cJ cM cS n0 yX6_saves cX6_saves 2 rm_X6_saves 0 0 [.ref (n0 + 73)] σ Q := by
  refine z_ofv (by decide +kernel) (Nat.le_of_ble_eq_true rfl) (fun p e s m args below meth c hX hY => ?_)
  unfold w_X6_saves at hf
  refine zt_L (L' := [(0, .ref (n0 + 73))]) rfl ?_
  refine zt_iconst hX dX6_saves_0 (v := (1 : Int32)) (by decide) ?_
  refine zt_istore_n (L' := [(1, .int (1 : Int32)), (0, .ref (n0 + 73))]) hX dX6_saves_1 rfl (by decide) rfl ?_
  exact zt_sub [1, 0] rfl (t_X6_saves_2 hX hY 400 _ _ hf)

theorem dX6_isMeter_0 : decode cX6_isMeter 0 = .ok (.iload_n 1, 1) := by decide +kernel
theorem dX6_isMeter_1 : decode cX6_isMeter 1 = .ok (.iconst 0, 1) := by decide +kernel
theorem dX6_isMeter_2 : decode cX6_isMeter 2 = .ok (.aload_n 0, 1) := by decide +kernel
theorem dX6_isMeter_3 : decode cX6_isMeter 3 = .ok (.getfield 7, 3) := by decide +kernel
theorem dX6_isMeter_6 : decode cX6_isMeter 6 = .ok (.iconst 0, 1) := by decide +kernel
theorem dX6_isMeter_7 : decode cX6_isMeter 7 = .ok (.iaload, 1) := by decide +kernel
theorem dX6_isMeter_8 : decode cX6_isMeter 8 = .ok (.iconst 1, 1) := by decide +kernel
theorem dX6_isMeter_9 : decode cX6_isMeter 9 = .ok (.isub, 1) := by decide +kernel
theorem dX6_isMeter_10 : decode cX6_isMeter 10 = .ok (.invokestatic 40, 3) := by decide +kernel
theorem dX6_isMeter_13 : decode cX6_isMeter 13 = .ok (.ireturn, 1) := by decide +kernel
abbrev rm_X6_isMeter : Room := { frames := 1, cells := 0, slots := 0, locals := 22 }
theorem hy_X6_isMeter : yX6_isMeter.cls ≠ "java/lang/invoke/MethodHandle" ∧ yX6_isMeter.cls ≠ "java/lang/invoke/VarHandle" ∧ (parseMethodDescriptor yX6_isMeter.desc).map (fun d => d.parameters.length) = some 1 := by decide +kernel
def w_X6_isMeter (a1 : Int32) (σ : z_S) (Q : Int32 → z_S → Prop) : Prop :=
  vp_in (0 : Int32) 1584 ∧ w_X6_in a1 (0 : Int32) ((zg_i σ 74 (0 : Int32).toNatClampNeg) - (1 : Int32)) σ (fun r2 σ3 => (r2 = 0 ∨ r2 = 1) ∧ Q r2 σ3)
set_option maxHeartbeats 4000000 in
set_option maxRecDepth 100000 in
theorem c_X6_isMeter {l : Launch} {D : va_G} {cI cJ cM cS : ClassId} {n0 : Nat} {a1 : Int32} {σ : z_S} {Q : Int32 → z_S → Prop} (hf : w_X6_isMeter a1 σ Q) : z_ci l D cI cJ cM cS n0 yX6_isMeter cX6_isMeter 2 .boolean rm_X6_isMeter 0 0 [.ref (n0 + 73), .int a1] σ Q := by
  refine z_ofi (by decide +kernel) (Nat.le_of_ble_eq_true rfl) (fun p e s m args below meth c hX hY => ?_)
  unfold w_X6_isMeter at hf
  refine zt_L (L' := [(0, .ref (n0 + 73)), (1, .int a1)]) rfl ?_
  refine zt_iload_n hX 1 dX6_isMeter_0 rfl rfl ?_
  refine zt_iconst hX dX6_isMeter_1 (v := (0 : Int32)) (by decide) ?_
  refine zt_aload_n hX 0 dX6_isMeter_2 rfl rfl ?_
  refine zt_get_X6 hX (by decide) (zE_73 _ _) 0 (by decide) kw_654 rfl rfl dX6_isMeter_3 ?_
  refine zt_iconst hX dX6_isMeter_6 (v := (0 : Int32)) (by decide) ?_
  obtain ⟨h1, hf⟩ := hf
  refine zt_iaload hX dX6_isMeter_7 (by decide) rfl h1 ?_
  refine zt_iconst hX dX6_isMeter_8 (v := (1 : Int32)) (by decide) ?_
  refine zt_isub hX dX6_isMeter_9 ?_
  refine zt_calliS hX hY (av := [.int a1, .int (0 : Int32), .int ((zg_i σ 74 (0 : Int32).toNatClampNeg) - (1 : Int32))]) (c_X6_in hf) dX6_isMeter_10 rfl kw_702 kw_703 kw_67 kw_704 ⟨rfl, rfl⟩ hy_X6_in ⟨by decide, by decide⟩ ⟨by decide, by decide⟩ (Nat.le_of_ble_eq_true rfl) (fun r2 σ3 hf => ?_)
  exact zt_zret hX hY dX6_isMeter_13 hf

theorem dX6_of_0 : decode cX6_of 0 = .ok (.aload_n 0, 1) := by decide +kernel
theorem dX6_of_1 : decode cX6_of 1 = .ok (.getfield 7, 3) := by decide +kernel
theorem dX6_of_4 : decode cX6_of 4 = .ok (.iconst 4, 1) := by decide +kernel
theorem dX6_of_5 : decode cX6_of 5 = .ok (.bipush 18, 2) := by decide +kernel
theorem dX6_of_7 : decode cX6_of 7 = .ok (.iload_n 1, 1) := by decide +kernel
theorem dX6_of_8 : decode cX6_of 8 = .ok (.imul, 1) := by decide +kernel
theorem dX6_of_9 : decode cX6_of 9 = .ok (.iadd, 1) := by decide +kernel
theorem dX6_of_10 : decode cX6_of 10 = .ok (.iload_n 2, 1) := by decide +kernel
theorem dX6_of_11 : decode cX6_of 11 = .ok (.iadd, 1) := by decide +kernel
theorem dX6_of_12 : decode cX6_of 12 = .ok (.iaload, 1) := by decide +kernel
theorem dX6_of_13 : decode cX6_of 13 = .ok (.ireturn, 1) := by decide +kernel
abbrev rm_X6_of : Room := { frames := 0, cells := 0, slots := 0, locals := 0 }
theorem hy_X6_of : yX6_of.cls ≠ "java/lang/invoke/MethodHandle" ∧ yX6_of.cls ≠ "java/lang/invoke/VarHandle" ∧ (parseMethodDescriptor yX6_of.desc).map (fun d => d.parameters.length) = some 2 := by decide +kernel
def w_X6_of (a1 : Int32) (a2 : Int32) (σ : z_S) (Q : Int32 → z_S → Prop) : Prop :=
  vp_in (((4 : Int32) + ((18 : Int32) * a1)) + a2) 1584 ∧ Q (zg_i σ 74 (((4 : Int32) + ((18 : Int32) * a1)) + a2).toNatClampNeg) σ
set_option maxHeartbeats 4000000 in
set_option maxRecDepth 100000 in
theorem c_X6_of {l : Launch} {D : va_G} {cI cJ cM cS : ClassId} {n0 : Nat} {a1 : Int32} {a2 : Int32} {σ : z_S} {Q : Int32 → z_S → Prop} (hf : w_X6_of a1 a2 σ Q) : z_ci l D cI cJ cM cS n0 yX6_of cX6_of 3 .int rm_X6_of 0 0 [.ref (n0 + 73), .int a1, .int a2] σ Q := by
  refine z_ofi (by decide +kernel) (Nat.le_of_ble_eq_true rfl) (fun p e s m args below meth c hX hY => ?_)
  unfold w_X6_of at hf
  refine zt_L (L' := [(0, .ref (n0 + 73)), (1, .int a1), (2, .int a2)]) rfl ?_
  refine zt_aload_n hX 0 dX6_of_0 rfl rfl ?_
  refine zt_get_X6 hX (by decide) (zE_73 _ _) 0 (by decide) kw_654 rfl rfl dX6_of_1 ?_
  refine zt_iconst hX dX6_of_4 (v := (4 : Int32)) (by decide) ?_
  refine zt_bipush hX dX6_of_5 (v := (18 : Int32)) (by decide) ?_
  refine zt_iload_n hX 1 dX6_of_7 rfl rfl ?_
  refine zt_imul hX dX6_of_8 ?_
  refine zt_iadd hX dX6_of_9 ?_
  refine zt_iload_n hX 2 dX6_of_10 rfl rfl ?_
  refine zt_iadd hX dX6_of_11 ?_
  obtain ⟨h1, hf⟩ := hf
  refine zt_iaload hX dX6_of_12 (by decide) rfl h1 ?_
  exact zt_iret hX hY dX6_of_13 hf

theorem dX6_sets_0 : decode cX6_sets 0 = .ok (.aload_n 0, 1) := by decide +kernel
theorem dX6_sets_1 : decode cX6_sets 1 = .ok (.getfield 7, 3) := by decide +kernel
theorem dX6_sets_4 : decode cX6_sets 4 = .ok (.iconst 4, 1) := by decide +kernel
theorem dX6_sets_5 : decode cX6_sets 5 = .ok (.bipush 18, 2) := by decide +kernel
theorem dX6_sets_7 : decode cX6_sets 7 = .ok (.iload_n 1, 1) := by decide +kernel
theorem dX6_sets_8 : decode cX6_sets 8 = .ok (.imul, 1) := by decide +kernel
theorem dX6_sets_9 : decode cX6_sets 9 = .ok (.iadd, 1) := by decide +kernel
theorem dX6_sets_10 : decode cX6_sets 10 = .ok (.iload_n 2, 1) := by decide +kernel
theorem dX6_sets_11 : decode cX6_sets 11 = .ok (.iadd, 1) := by decide +kernel
theorem dX6_sets_12 : decode cX6_sets 12 = .ok (.iload_n 3, 1) := by decide +kernel
theorem dX6_sets_13 : decode cX6_sets 13 = .ok (.iastore, 1) := by decide +kernel
theorem dX6_sets_14 : decode cX6_sets 14 = .ok (.return_, 1) := by decide +kernel
abbrev rm_X6_sets : Room := { frames := 0, cells := 0, slots := 0, locals := 0 }
theorem hy_X6_sets : yX6_sets.cls ≠ "java/lang/invoke/MethodHandle" ∧ yX6_sets.cls ≠ "java/lang/invoke/VarHandle" ∧ (parseMethodDescriptor yX6_sets.desc).map (fun d => d.parameters.length) = some 3 := by decide +kernel
def w_X6_sets (a1 : Int32) (a2 : Int32) (a3 : Int32) (σ : z_S) (Q : z_S → Prop) : Prop :=
  vp_in (((4 : Int32) + ((18 : Int32) * a1)) + a2) 1584 ∧ ∀ σ2 : z_S, σ2 = zs_i σ 74 (((4 : Int32) + ((18 : Int32) * a1)) + a2).toNatClampNeg a3 → Q σ2
set_option maxHeartbeats 4000000 in
set_option maxRecDepth 100000 in
theorem c_X6_sets {l : Launch} {D : va_G} {cI cJ cM cS : ClassId} {n0 : Nat} {a1 : Int32} {a2 : Int32} {a3 : Int32} {σ : z_S} {Q : z_S → Prop} (hf : w_X6_sets a1 a2 a3 σ Q) : z_cv l D cI cJ cM cS n0 yX6_sets cX6_sets 4 rm_X6_sets 0 0 [.ref (n0 + 73), .int a1, .int a2, .int a3] σ Q := by
  refine z_ofv (by decide +kernel) (Nat.le_of_ble_eq_true rfl) (fun p e s m args below meth c hX hY => ?_)
  unfold w_X6_sets at hf
  refine zt_L (L' := [(0, .ref (n0 + 73)), (1, .int a1), (2, .int a2), (3, .int a3)]) rfl ?_
  refine zt_aload_n hX 0 dX6_sets_0 rfl rfl ?_
  refine zt_get_X6 hX (by decide) (zE_73 _ _) 0 (by decide) kw_654 rfl rfl dX6_sets_1 ?_
  refine zt_iconst hX dX6_sets_4 (v := (4 : Int32)) (by decide) ?_
  refine zt_bipush hX dX6_sets_5 (v := (18 : Int32)) (by decide) ?_
  refine zt_iload_n hX 1 dX6_sets_7 rfl rfl ?_
  refine zt_imul hX dX6_sets_8 ?_
  refine zt_iadd hX dX6_sets_9 ?_
  refine zt_iload_n hX 2 dX6_sets_10 rfl rfl ?_
  refine zt_iadd hX dX6_sets_11 ?_
  refine zt_iload_n hX 3 dX6_sets_12 rfl rfl ?_
  obtain ⟨h1, hf⟩ := hf
  refine zt_iastore hX dX6_sets_13 (by decide) rfl h1 ?_
  refine zt_nms (fun σ2 d2 => ?_)
  replace hf := hf σ2 d2
  exact zt_vret hX hY dX6_sets_14 hf

theorem dX6_whole_0 : decode cX6_whole 0 = .ok (.iconst 1, 1) := by decide +kernel
theorem dX6_whole_1 : decode cX6_whole 1 = .ok (.istore_n 2, 1) := by decide +kernel
theorem dX6_whole_2 : decode cX6_whole 2 = .ok (.iconst 0, 1) := by decide +kernel
theorem dX6_whole_3 : decode cX6_whole 3 = .ok (.istore_n 3, 1) := by decide +kernel
theorem dX6_whole_4 : decode cX6_whole 4 = .ok (.iload_n 3, 1) := by decide +kernel
theorem dX6_whole_5 : decode cX6_whole 5 = .ok (.aload_n 0, 1) := by decide +kernel
theorem dX6_whole_6 : decode cX6_whole 6 = .ok (.iload_n 1, 1) := by decide +kernel
theorem dX6_whole_7 : decode cX6_whole 7 = .ok (.iconst 2, 1) := by decide +kernel
theorem dX6_whole_8 : decode cX6_whole 8 = .ok (.invokevirtual 44, 3) := by decide +kernel
theorem dX6_whole_11 : decode cX6_whole 11 = .ok (.if_icmp .ge 14, 3) := by decide +kernel
theorem dX6_whole_14 : decode cX6_whole 14 = .ok (.iload_n 2, 1) := by decide +kernel
theorem dX6_whole_15 : decode cX6_whole 15 = .ok (.bipush 10, 2) := by decide +kernel
theorem dX6_whole_17 : decode cX6_whole 17 = .ok (.imul, 1) := by decide +kernel
theorem dX6_whole_18 : decode cX6_whole 18 = .ok (.istore_n 2, 1) := by decide +kernel
theorem dX6_whole_19 : decode cX6_whole 19 = .ok (.iinc 3 1, 3) := by decide +kernel
theorem dX6_whole_22 : decode cX6_whole 22 = .ok (.goto (-18), 3) := by decide +kernel
theorem dX6_whole_25 : decode cX6_whole 25 = .ok (.iload_n 2, 1) := by decide +kernel
theorem dX6_whole_26 : decode cX6_whole 26 = .ok (.ireturn, 1) := by decide +kernel
abbrev rm_X6_whole : Room := { frames := 1, cells := 0, slots := 0, locals := 22 }
theorem hy_X6_whole : yX6_whole.cls ≠ "java/lang/invoke/MethodHandle" ∧ yX6_whole.cls ≠ "java/lang/invoke/VarHandle" ∧ (parseMethodDescriptor yX6_whole.desc).map (fun d => d.parameters.length) = some 1 := by decide +kernel
def wb_X6_whole_4  (Q : Int32 → z_S → Prop) (k4 : Int32 → Int32 → Int32 → z_S → Prop) (x1 : Int32) (x2 : Int32) (x3 : Int32) (σ : z_S) : Prop :=
  w_X6_of x1 (2 : Int32) σ (fun r1 σ2 => if r1 ≤ x3 then (Q x2 σ2) else (∀ y4 : Int32, y4 = (x2 * (10 : Int32)) → ∀ y5 : Int32, y5 = (x3 + (1 : Int32)) → k4 x1 y4 y5 σ2))
def w_X6_whole_4  (Q : Int32 → z_S → Prop) : Nat → Int32 → Int32 → Int32 → z_S → Prop
  | 0 => fun _ _ _ _ => False
  | n + 1 => wb_X6_whole_4  Q (w_X6_whole_4  Q n)
def w_X6_whole (a1 : Int32) (σ : z_S) (Q : Int32 → z_S → Prop) : Prop :=
  w_X6_whole_4 Q 400 a1 (1 : Int32) (0 : Int32) σ
set_option maxHeartbeats 4000000 in
set_option maxRecDepth 100000 in
theorem t_X6_whole_4 {l : Launch} {D : va_G} {cI cJ cM cS : ClassId} {n0 : Nat} {p : Program} {e : Env} {s : State} {m : MethodId} {args : Array Value} {below : List Frame} {meth : Method} {c : Code}  {Q : Int32 → z_S → Prop} (hX : z_X D cI cJ cM cS p s m args c cX6_whole 4 yX6_whole.cls) (hY : z_Y s meth (some .int))  : ∀ (n : Nat) (x1 : Int32) (x2 : Int32) (x3 : Int32) (σ : z_S), w_X6_whole_4  Q n x1 x2 x3 σ → z_t D cI cJ cM cS n0 p l e rm_X6_whole s m args below meth c 4 (MQ below (va_Qi Q (fun u t => z_Bq D cI cJ cM cS n0 u t) (z_Ab n0)) args s 0 0 (z_Ab n0)) 0 0 4 [(0, .ref (n0 + 73)), (1, .int x1), (2, .int x2), (3, .int x3)] [] σ := by
  intro n
  induction n with
  | zero => intro _ _ _ _ hf; exact hf.elim
  | succ n ih4 =>
    intro x1 x2 x3 σ hf
    have hf : wb_X6_whole_4  Q (w_X6_whole_4  Q n) x1 x2 x3 σ := hf
    unfold wb_X6_whole_4 at hf
    refine zt_iload_n hX 3 dX6_whole_4 rfl rfl ?_
    refine zt_aload_n hX 0 dX6_whole_5 rfl rfl ?_
    refine zt_iload_n hX 1 dX6_whole_6 rfl rfl ?_
    refine zt_iconst hX dX6_whole_7 (v := (2 : Int32)) (by decide) ?_
    refine zt_calliV hX hY (av := [.int x1, .int (2 : Int32)]) (c_X6_of hf) dX6_whole_8 rfl kw_729 kw_731 kw_25 kw_67 kw_732 ⟨rfl, rfl⟩ hy_X6_of ⟨by decide, by decide⟩ ⟨by decide, by decide⟩ (Nat.le_of_ble_eq_true rfl) (by decide) (zE_73 _ _) rfl rfl (fun r1 σ2 hf => ?_)
    refine zt_icmp_ge hX dX6_whole_11 (tgt := 25) (by decide) (fun c3 => ?_) (fun c3 => ?_)
    · replace hf := z_pos hf c3
      refine zt_iload_n hX 2 dX6_whole_25 rfl rfl ?_
      exact zt_iret hX hY dX6_whole_26 hf
    · replace hf := z_neg hf c3
      refine zt_iload_n hX 2 dX6_whole_14 rfl rfl ?_
      refine zt_bipush hX dX6_whole_15 (v := (10 : Int32)) (by decide) ?_
      refine zt_imul hX dX6_whole_17 ?_
      refine zt_nmi (fun y4 e4 => ?_)
      replace hf := hf y4 e4
      refine zt_istore_n (L' := [(2, .int y4), (0, .ref (n0 + 73)), (1, .int x1), (3, .int x3)]) hX dX6_whole_18 rfl (by decide) rfl ?_
      obtain ⟨y5, e5⟩ : ∃ y : Int32, y = (x3 + (1 : Int32)) := ⟨_, rfl⟩
      replace hf := hf y5 e5
      refine zt_iinc (L' := [(3, .int y5), (2, .int y4), (0, .ref (n0 + 73)), (1, .int x1)]) hX 3 dX6_whole_19 rfl (v := y5) (by rw [e5]; rfl) (by decide) rfl ?_
      refine zt_goto hX dX6_whole_22 (tgt := 4) (by decide) ?_
      exact zt_sub [2, 3, 1, 0] rfl (ih4 _ _ _ _ hf)
set_option maxHeartbeats 4000000 in
set_option maxRecDepth 100000 in
theorem c_X6_whole {l : Launch} {D : va_G} {cI cJ cM cS : ClassId} {n0 : Nat} {a1 : Int32} {σ : z_S} {Q : Int32 → z_S → Prop} (hf : w_X6_whole a1 σ Q) : z_ci l D cI cJ cM cS n0 yX6_whole cX6_whole 4 .int rm_X6_whole 0 0 [.ref (n0 + 73), .int a1] σ Q := by
  refine z_ofi (by decide +kernel) (Nat.le_of_ble_eq_true rfl) (fun p e s m args below meth c hX hY => ?_)
  unfold w_X6_whole at hf
  refine zt_L (L' := [(0, .ref (n0 + 73)), (1, .int a1)]) rfl ?_
  refine zt_iconst hX dX6_whole_0 (v := (1 : Int32)) (by decide) ?_
  refine zt_istore_n (L' := [(2, .int (1 : Int32)), (0, .ref (n0 + 73)), (1, .int a1)]) hX dX6_whole_1 rfl (by decide) rfl ?_
  refine zt_iconst hX dX6_whole_2 (v := (0 : Int32)) (by decide) ?_
  refine zt_istore_n (L' := [(3, .int (0 : Int32)), (2, .int (1 : Int32)), (0, .ref (n0 + 73)), (1, .int a1)]) hX dX6_whole_3 rfl (by decide) rfl ?_
  exact zt_sub [2, 3, 1, 0] rfl (t_X6_whole_4 hX hY 400 _ _ _ _ hf)

theorem dX6_children_0 : decode cX6_children 0 = .ok (.iconst 0, 1) := by decide +kernel
theorem dX6_children_1 : decode cX6_children 1 = .ok (.istore_n 2, 1) := by decide +kernel
theorem dX6_children_2 : decode cX6_children 2 = .ok (.iconst 1, 1) := by decide +kernel
theorem dX6_children_3 : decode cX6_children 3 = .ok (.istore_n 3, 1) := by decide +kernel
theorem dX6_children_4 : decode cX6_children 4 = .ok (.iload_n 3, 1) := by decide +kernel
theorem dX6_children_5 : decode cX6_children 5 = .ok (.aload_n 0, 1) := by decide +kernel
theorem dX6_children_6 : decode cX6_children 6 = .ok (.getfield 7, 3) := by decide +kernel
theorem dX6_children_9 : decode cX6_children 9 = .ok (.iconst 0, 1) := by decide +kernel
theorem dX6_children_10 : decode cX6_children 10 = .ok (.iaload, 1) := by decide +kernel
theorem dX6_children_11 : decode cX6_children 11 = .ok (.if_icmp .ge 27, 3) := by decide +kernel
theorem dX6_children_14 : decode cX6_children 14 = .ok (.iload_n 2, 1) := by decide +kernel
theorem dX6_children_15 : decode cX6_children 15 = .ok (.aload_n 0, 1) := by decide +kernel
theorem dX6_children_16 : decode cX6_children 16 = .ok (.iload_n 3, 1) := by decide +kernel
theorem dX6_children_17 : decode cX6_children 17 = .ok (.iconst 0, 1) := by decide +kernel
theorem dX6_children_18 : decode cX6_children 18 = .ok (.invokevirtual 44, 3) := by decide +kernel
theorem dX6_children_21 : decode cX6_children 21 = .ok (.iload_n 1, 1) := by decide +kernel
theorem dX6_children_22 : decode cX6_children 22 = .ok (.if_icmp .ne 7, 3) := by decide +kernel
theorem dX6_children_25 : decode cX6_children 25 = .ok (.iconst 1, 1) := by decide +kernel
theorem dX6_children_26 : decode cX6_children 26 = .ok (.goto 4, 3) := by decide +kernel
theorem dX6_children_29 : decode cX6_children 29 = .ok (.iconst 0, 1) := by decide +kernel
theorem dX6_children_30 : decode cX6_children 30 = .ok (.iadd, 1) := by decide +kernel
theorem dX6_children_31 : decode cX6_children 31 = .ok (.istore_n 2, 1) := by decide +kernel
theorem dX6_children_32 : decode cX6_children 32 = .ok (.iinc 3 1, 3) := by decide +kernel
theorem dX6_children_35 : decode cX6_children 35 = .ok (.goto (-31), 3) := by decide +kernel
theorem dX6_children_38 : decode cX6_children 38 = .ok (.iload_n 2, 1) := by decide +kernel
theorem dX6_children_39 : decode cX6_children 39 = .ok (.ireturn, 1) := by decide +kernel
abbrev rm_X6_children : Room := { frames := 1, cells := 0, slots := 0, locals := 22 }
theorem hy_X6_children : yX6_children.cls ≠ "java/lang/invoke/MethodHandle" ∧ yX6_children.cls ≠ "java/lang/invoke/VarHandle" ∧ (parseMethodDescriptor yX6_children.desc).map (fun d => d.parameters.length) = some 1 := by decide +kernel
def w_X6_children_30 (k4 : Int32 → Int32 → Int32 → z_S → Prop) (Q : Int32 → z_S → Prop) (x1 : Int32) (x3 : Int32) (s0 : Int32) (s1 : Int32) (σ : z_S) : Prop :=
  ∀ y6 : Int32, y6 = (s1 + s0) → ∀ y7 : Int32, y7 = (x3 + (1 : Int32)) → k4 x1 y6 y7 σ
def wb_X6_children_4  (Q : Int32 → z_S → Prop) (k4 : Int32 → Int32 → Int32 → z_S → Prop) (x1 : Int32) (x2 : Int32) (x3 : Int32) (σ : z_S) : Prop :=
  vp_in (0 : Int32) 1584 ∧ if (zg_i σ 74 (0 : Int32).toNatClampNeg) ≤ x3 then (Q x2 σ) else (w_X6_of x3 (0 : Int32) σ (fun r3 σ4 => if r3 = x1 then (w_X6_children_30 k4 Q x1 x3 (1 : Int32) x2 σ4) else (w_X6_children_30 k4 Q x1 x3 (0 : Int32) x2 σ4)))
def w_X6_children_4  (Q : Int32 → z_S → Prop) : Nat → Int32 → Int32 → Int32 → z_S → Prop
  | 0 => fun _ _ _ _ => False
  | n + 1 => wb_X6_children_4  Q (w_X6_children_4  Q n)
def w_X6_children (a1 : Int32) (σ : z_S) (Q : Int32 → z_S → Prop) : Prop :=
  w_X6_children_4 Q 400 a1 (0 : Int32) (1 : Int32) σ
set_option maxHeartbeats 4000000 in
set_option maxRecDepth 100000 in
theorem t_X6_children_30 {l : Launch} {D : va_G} {cI cJ cM cS : ClassId} {n0 : Nat} {p : Program} {e : Env} {s : State} {m : MethodId} {args : Array Value} {below : List Frame} {meth : Method} {c : Code} {k4 : Int32 → Int32 → Int32 → z_S → Prop} {Q : Int32 → z_S → Prop} (hX : z_X D cI cJ cM cS p s m args c cX6_children 4 yX6_children.cls) (hY : z_Y s meth (some .int)) (hk4 : ∀ (x1 : Int32) (x2 : Int32) (x3 : Int32) (σ : z_S), k4 x1 x2 x3 σ → z_t D cI cJ cM cS n0 p l e rm_X6_children s m args below meth c 4 (MQ below (va_Qi Q (fun u t => z_Bq D cI cJ cM cS n0 u t) (z_Ab n0)) args s 0 0 (z_Ab n0)) 0 0 4 [(0, .ref (n0 + 73)), (1, .int x1), (2, .int x2), (3, .int x3)] [] σ) (x1 : Int32) (x3 : Int32) (s0 : Int32) (s1 : Int32) (σ : z_S) (hf : w_X6_children_30 k4 Q x1 x3 s0 s1 σ) : z_t D cI cJ cM cS n0 p l e rm_X6_children s m args below meth c 4 (MQ below (va_Qi Q (fun u t => z_Bq D cI cJ cM cS n0 u t) (z_Ab n0)) args s 0 0 (z_Ab n0)) 0 0 30 [(0, .ref (n0 + 73)), (1, .int x1), (3, .int x3)] [.int s0, .int s1] σ := by
  unfold w_X6_children_30 at hf
  refine zt_iadd hX dX6_children_30 ?_
  refine zt_nmi (fun y6 e6 => ?_)
  replace hf := hf y6 e6
  refine zt_istore_n (L' := [(2, .int y6), (0, .ref (n0 + 73)), (1, .int x1), (3, .int x3)]) hX dX6_children_31 rfl (by decide) rfl ?_
  obtain ⟨y7, e7⟩ : ∃ y : Int32, y = (x3 + (1 : Int32)) := ⟨_, rfl⟩
  replace hf := hf y7 e7
  refine zt_iinc (L' := [(3, .int y7), (2, .int y6), (0, .ref (n0 + 73)), (1, .int x1)]) hX 3 dX6_children_32 rfl (v := y7) (by rw [e7]; rfl) (by decide) rfl ?_
  refine zt_goto hX dX6_children_35 (tgt := 4) (by decide) ?_
  exact zt_sub [2, 3, 1, 0] rfl (hk4 _ _ _ _ hf)
set_option maxHeartbeats 4000000 in
set_option maxRecDepth 100000 in
theorem t_X6_children_4 {l : Launch} {D : va_G} {cI cJ cM cS : ClassId} {n0 : Nat} {p : Program} {e : Env} {s : State} {m : MethodId} {args : Array Value} {below : List Frame} {meth : Method} {c : Code}  {Q : Int32 → z_S → Prop} (hX : z_X D cI cJ cM cS p s m args c cX6_children 4 yX6_children.cls) (hY : z_Y s meth (some .int))  : ∀ (n : Nat) (x1 : Int32) (x2 : Int32) (x3 : Int32) (σ : z_S), w_X6_children_4  Q n x1 x2 x3 σ → z_t D cI cJ cM cS n0 p l e rm_X6_children s m args below meth c 4 (MQ below (va_Qi Q (fun u t => z_Bq D cI cJ cM cS n0 u t) (z_Ab n0)) args s 0 0 (z_Ab n0)) 0 0 4 [(0, .ref (n0 + 73)), (1, .int x1), (2, .int x2), (3, .int x3)] [] σ := by
  intro n
  induction n with
  | zero => intro _ _ _ _ hf; exact hf.elim
  | succ n ih4 =>
    intro x1 x2 x3 σ hf
    have hf : wb_X6_children_4  Q (w_X6_children_4  Q n) x1 x2 x3 σ := hf
    unfold wb_X6_children_4 at hf
    refine zt_iload_n hX 3 dX6_children_4 rfl rfl ?_
    refine zt_aload_n hX 0 dX6_children_5 rfl rfl ?_
    refine zt_get_X6 hX (by decide) (zE_73 _ _) 0 (by decide) kw_654 rfl rfl dX6_children_6 ?_
    refine zt_iconst hX dX6_children_9 (v := (0 : Int32)) (by decide) ?_
    obtain ⟨h1, hf⟩ := hf
    refine zt_iaload hX dX6_children_10 (by decide) rfl h1 ?_
    refine zt_icmp_ge hX dX6_children_11 (tgt := 38) (by decide) (fun c2 => ?_) (fun c2 => ?_)
    · replace hf := z_pos hf c2
      refine zt_iload_n hX 2 dX6_children_38 rfl rfl ?_
      exact zt_iret hX hY dX6_children_39 hf
    · replace hf := z_neg hf c2
      refine zt_iload_n hX 2 dX6_children_14 rfl rfl ?_
      refine zt_aload_n hX 0 dX6_children_15 rfl rfl ?_
      refine zt_iload_n hX 3 dX6_children_16 rfl rfl ?_
      refine zt_iconst hX dX6_children_17 (v := (0 : Int32)) (by decide) ?_
      refine zt_calliV hX hY (av := [.int x3, .int (0 : Int32)]) (c_X6_of hf) dX6_children_18 rfl kw_729 kw_731 kw_25 kw_67 kw_732 ⟨rfl, rfl⟩ hy_X6_of ⟨by decide, by decide⟩ ⟨by decide, by decide⟩ (Nat.le_of_ble_eq_true rfl) (by decide) (zE_73 _ _) rfl rfl (fun r3 σ4 hf => ?_)
      refine zt_iload_n hX 1 dX6_children_21 rfl rfl ?_
      refine zt_icmp_ne hX dX6_children_22 (tgt := 29) (by decide) (fun c5 => ?_) (fun c5 => ?_)
      · replace hf := z_neg hf c5
        refine zt_iconst hX dX6_children_29 (v := (0 : Int32)) (by decide) ?_
        exact zt_sub [0, 1, 3] rfl (t_X6_children_30 hX hY ih4 _ _ _ _ _ hf)
      · replace hf := z_pos hf c5
        refine zt_iconst hX dX6_children_25 (v := (1 : Int32)) (by decide) ?_
        refine zt_goto hX dX6_children_26 (tgt := 30) (by decide) ?_
        exact zt_sub [0, 1, 3] rfl (t_X6_children_30 hX hY ih4 _ _ _ _ _ hf)
set_option maxHeartbeats 4000000 in
set_option maxRecDepth 100000 in
theorem c_X6_children {l : Launch} {D : va_G} {cI cJ cM cS : ClassId} {n0 : Nat} {a1 : Int32} {σ : z_S} {Q : Int32 → z_S → Prop} (hf : w_X6_children a1 σ Q) : z_ci l D cI cJ cM cS n0 yX6_children cX6_children 4 .int rm_X6_children 0 0 [.ref (n0 + 73), .int a1] σ Q := by
  refine z_ofi (by decide +kernel) (Nat.le_of_ble_eq_true rfl) (fun p e s m args below meth c hX hY => ?_)
  unfold w_X6_children at hf
  refine zt_L (L' := [(0, .ref (n0 + 73)), (1, .int a1)]) rfl ?_
  refine zt_iconst hX dX6_children_0 (v := (0 : Int32)) (by decide) ?_
  refine zt_istore_n (L' := [(2, .int (0 : Int32)), (0, .ref (n0 + 73)), (1, .int a1)]) hX dX6_children_1 rfl (by decide) rfl ?_
  refine zt_iconst hX dX6_children_2 (v := (1 : Int32)) (by decide) ?_
  refine zt_istore_n (L' := [(3, .int (1 : Int32)), (2, .int (0 : Int32)), (0, .ref (n0 + 73)), (1, .int a1)]) hX dX6_children_3 rfl (by decide) rfl ?_
  exact zt_sub [2, 3, 1, 0] rfl (t_X6_children_4 hX hY 400 _ _ _ _ hf)

theorem dX6_noReadings_0 : decode cX6_noReadings 0 = .ok (.iconst 0, 1) := by decide +kernel
theorem dX6_noReadings_1 : decode cX6_noReadings 1 = .ok (.istore_n 2, 1) := by decide +kernel
theorem dX6_noReadings_2 : decode cX6_noReadings 2 = .ok (.iload_n 2, 1) := by decide +kernel
theorem dX6_noReadings_3 : decode cX6_noReadings 3 = .ok (.bipush 13, 2) := by decide +kernel
theorem dX6_noReadings_5 : decode cX6_noReadings 5 = .ok (.if_icmp .ge 19, 3) := by decide +kernel
theorem dX6_noReadings_8 : decode cX6_noReadings 8 = .ok (.aload_n 0, 1) := by decide +kernel
theorem dX6_noReadings_9 : decode cX6_noReadings 9 = .ok (.iload_n 1, 1) := by decide +kernel
theorem dX6_noReadings_10 : decode cX6_noReadings 10 = .ok (.iconst 5, 1) := by decide +kernel
theorem dX6_noReadings_11 : decode cX6_noReadings 11 = .ok (.iload_n 2, 1) := by decide +kernel
theorem dX6_noReadings_12 : decode cX6_noReadings 12 = .ok (.iadd, 1) := by decide +kernel
theorem dX6_noReadings_13 : decode cX6_noReadings 13 = .ok (.ldc 48, 2) := by decide +kernel
theorem dX6_noReadings_15 : decode cX6_noReadings 15 = .ok (.invokevirtual 49, 3) := by decide +kernel
theorem dX6_noReadings_18 : decode cX6_noReadings 18 = .ok (.iinc 2 1, 3) := by decide +kernel
theorem dX6_noReadings_21 : decode cX6_noReadings 21 = .ok (.goto (-19), 3) := by decide +kernel
theorem dX6_noReadings_24 : decode cX6_noReadings 24 = .ok (.return_, 1) := by decide +kernel
abbrev rm_X6_noReadings : Room := { frames := 1, cells := 0, slots := 0, locals := 23 }
theorem hy_X6_noReadings : yX6_noReadings.cls ≠ "java/lang/invoke/MethodHandle" ∧ yX6_noReadings.cls ≠ "java/lang/invoke/VarHandle" ∧ (parseMethodDescriptor yX6_noReadings.desc).map (fun d => d.parameters.length) = some 1 := by decide +kernel
def wb_X6_noReadings_2  (Q : z_S → Prop) (k2 : Int32 → Int32 → z_S → Prop) (x1 : Int32) (x2 : Int32) (σ : z_S) : Prop :=
  if (13 : Int32) ≤ x2 then (Q σ) else (w_X6_sets x1 ((5 : Int32) + x2) (-2000000000 : Int32) σ (fun σ3 => ∀ y4 : Int32, y4 = (x2 + (1 : Int32)) → k2 x1 y4 σ3))
def w_X6_noReadings_2  (Q : z_S → Prop) : Nat → Int32 → Int32 → z_S → Prop
  | 0 => fun _ _ _ => False
  | n + 1 => wb_X6_noReadings_2  Q (w_X6_noReadings_2  Q n)
def w_X6_noReadings (a1 : Int32) (σ : z_S) (Q : z_S → Prop) : Prop :=
  w_X6_noReadings_2 Q 400 a1 (0 : Int32) σ
set_option maxHeartbeats 4000000 in
set_option maxRecDepth 100000 in
theorem t_X6_noReadings_2 {l : Launch} {D : va_G} {cI cJ cM cS : ClassId} {n0 : Nat} {p : Program} {e : Env} {s : State} {m : MethodId} {args : Array Value} {below : List Frame} {meth : Method} {c : Code}  {Q : z_S → Prop} (hX : z_X D cI cJ cM cS p s m args c cX6_noReadings 3 yX6_noReadings.cls) (hY : z_Y s meth none)  : ∀ (n : Nat) (x1 : Int32) (x2 : Int32) (σ : z_S), w_X6_noReadings_2  Q n x1 x2 σ → z_t D cI cJ cM cS n0 p l e rm_X6_noReadings s m args below meth c 3 (MQ below (va_Qv Q (fun u t => z_Bq D cI cJ cM cS n0 u t) (z_Ab n0)) args s 0 0 (z_Ab n0)) 0 0 2 [(0, .ref (n0 + 73)), (1, .int x1), (2, .int x2)] [] σ := by
  intro n
  induction n with
  | zero => intro _ _ _ hf; exact hf.elim
  | succ n ih2 =>
    intro x1 x2 σ hf
    have hf : wb_X6_noReadings_2  Q (w_X6_noReadings_2  Q n) x1 x2 σ := hf
    unfold wb_X6_noReadings_2 at hf
    refine zt_iload_n hX 2 dX6_noReadings_2 rfl rfl ?_
    refine zt_bipush hX dX6_noReadings_3 (v := (13 : Int32)) (by decide) ?_
    refine zt_icmp_ge hX dX6_noReadings_5 (tgt := 24) (by decide) (fun c1 => ?_) (fun c1 => ?_)
    · replace hf := z_pos hf c1
      exact zt_vret hX hY dX6_noReadings_24 hf
    · replace hf := z_neg hf c1
      refine zt_aload_n hX 0 dX6_noReadings_8 rfl rfl ?_
      refine zt_iload_n hX 1 dX6_noReadings_9 rfl rfl ?_
      refine zt_iconst hX dX6_noReadings_10 (v := (5 : Int32)) (by decide) ?_
      refine zt_iload_n hX 2 dX6_noReadings_11 rfl rfl ?_
      refine zt_iadd hX dX6_noReadings_12 ?_
      refine zt_ldc hX dX6_noReadings_13 kw_715 ?_
      refine zt_callvV hX hY (av := [.int x1, .int ((5 : Int32) + x2), .int (-2000000000 : Int32)]) (c_X6_sets hf) dX6_noReadings_15 rfl kw_716 kw_718 kw_23 kw_67 kw_719 ⟨rfl, rfl⟩ hy_X6_sets ⟨by decide, by decide⟩ ⟨by decide, by decide⟩ (Nat.le_of_ble_eq_true rfl) (by decide) (zE_73 _ _) rfl rfl (fun σ3 hf => ?_)
      obtain ⟨y4, e4⟩ : ∃ y : Int32, y = (x2 + (1 : Int32)) := ⟨_, rfl⟩
      replace hf := hf y4 e4
      refine zt_iinc (L' := [(2, .int y4), (0, .ref (n0 + 73)), (1, .int x1)]) hX 2 dX6_noReadings_18 rfl (v := y4) (by rw [e4]; rfl) (by decide) rfl ?_
      refine zt_goto hX dX6_noReadings_21 (tgt := 2) (by decide) ?_
      exact zt_sub [1, 2, 0] rfl (ih2 _ _ _ hf)
set_option maxHeartbeats 4000000 in
set_option maxRecDepth 100000 in
theorem c_X6_noReadings {l : Launch} {D : va_G} {cI cJ cM cS : ClassId} {n0 : Nat} {a1 : Int32} {σ : z_S} {Q : z_S → Prop} (hf : w_X6_noReadings a1 σ Q) : z_cv l D cI cJ cM cS n0 yX6_noReadings cX6_noReadings 3 rm_X6_noReadings 0 0 [.ref (n0 + 73), .int a1] σ Q := by
  refine z_ofv (by decide +kernel) (Nat.le_of_ble_eq_true rfl) (fun p e s m args below meth c hX hY => ?_)
  unfold w_X6_noReadings at hf
  refine zt_L (L' := [(0, .ref (n0 + 73)), (1, .int a1)]) rfl ?_
  refine zt_iconst hX dX6_noReadings_0 (v := (0 : Int32)) (by decide) ?_
  refine zt_istore_n (L' := [(2, .int (0 : Int32)), (0, .ref (n0 + 73)), (1, .int a1)]) hX dX6_noReadings_1 rfl (by decide) rfl ?_
  exact zt_sub [1, 2, 0] rfl (t_X6_noReadings_2 hX hY 400 _ _ _ hf)
