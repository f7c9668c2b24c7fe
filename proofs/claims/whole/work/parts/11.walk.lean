theorem dX4_span_0 : decode cX4_span 0 = .ok (.aload_n 0, 1) := by decide +kernel
theorem dX4_span_1 : decode cX4_span 1 = .ok (.getfield 25, 3) := by decide +kernel
theorem dX4_span_4 : decode cX4_span 4 = .ok (.iload_n 1, 1) := by decide +kernel
theorem dX4_span_5 : decode cX4_span 5 = .ok (.iaload, 1) := by decide +kernel
theorem dX4_span_6 : decode cX4_span 6 = .ok (.tableswitch 37 3 5 #[26, 30, 34], 26) := by decide +kernel
theorem dX4_span_32 : decode cX4_span 32 = .ok (.sipush 1000, 3) := by decide +kernel
theorem dX4_span_35 : decode cX4_span 35 = .ok (.ireturn, 1) := by decide +kernel
theorem dX4_span_36 : decode cX4_span 36 = .ok (.sipush 10000, 3) := by decide +kernel
theorem dX4_span_39 : decode cX4_span 39 = .ok (.ireturn, 1) := by decide +kernel
theorem dX4_span_40 : decode cX4_span 40 = .ok (.ldc 64, 2) := by decide +kernel
theorem dX4_span_42 : decode cX4_span 42 = .ok (.ireturn, 1) := by decide +kernel
theorem dX4_span_43 : decode cX4_span 43 = .ok (.ldc 65, 2) := by decide +kernel
theorem dX4_span_45 : decode cX4_span 45 = .ok (.ireturn, 1) := by decide +kernel
abbrev rm_X4_span : Room := { frames := 0, cells := 0, slots := 0, locals := 0 }
theorem hy_X4_span : yX4_span.cls ≠ "java/lang/invoke/MethodHandle" ∧ yX4_span.cls ≠ "java/lang/invoke/VarHandle" ∧ (parseMethodDescriptor yX4_span.desc).map (fun d => d.parameters.length) = some 1 := by decide +kernel
def w_X4_span (a1 : Int32) (σ : z_S) (Q : Int32 → z_S → Prop) : Prop :=
  vp_in a1 10 ∧ if (zg_i σ 4 a1.toNatClampNeg) = (3 : Int32) then (Q (1000 : Int32) σ) else (if (zg_i σ 4 a1.toNatClampNeg) = (4 : Int32) then (Q (10000 : Int32) σ) else (if (zg_i σ 4 a1.toNatClampNeg) = (5 : Int32) then (Q (100000 : Int32) σ) else (Q (1000000 : Int32) σ)))
set_option maxHeartbeats 4000000 in
set_option maxRecDepth 100000 in
theorem c_X4_span {l : Launch} {D : va_G} {cI cJ cM cS : ClassId} {n0 : Nat} {a1 : Int32} {σ : z_S} {Q : Int32 → z_S → Prop} (hf : w_X4_span a1 σ Q) : z_ci l D cI cJ cM cS n0 yX4_span cX4_span 2 .int rm_X4_span 0 0 [.ref (n0 + 1), .int a1] σ Q := by
  refine z_ofi (by decide +kernel) (Nat.le_of_ble_eq_true rfl) (fun p e s m args below meth c hX hY => ?_)
  unfold w_X4_span at hf
  refine zt_L (L' := [(0, .ref (n0 + 1)), (1, .int a1)]) rfl ?_
  refine zt_aload_n hX 0 dX4_span_0 rfl rfl ?_
  refine zt_get_X4 hX (by decide) (zE_1 _ _) 6 (by decide) kw_106 rfl rfl dX4_span_1 ?_
  refine zt_iload_n hX 1 dX4_span_4 rfl rfl ?_
  obtain ⟨h1, hf⟩ := hf
  refine zt_iaload hX dX4_span_5 (by decide) rfl h1 ?_
  by_cases c2 : (zg_i σ 4 a1.toNatClampNeg) = (3 : Int32)
  · replace hf := z_pos hf c2
    refine zt_tabIn hX dX4_span_6 (by rw [c2]; decide) (by rw [c2]; decide) (off := 26) (by rw [c2]; rfl) (tgt := 32) (by decide) ?_
    refine zt_sipush hX dX4_span_32 (v := (1000 : Int32)) (by decide) ?_
    exact zt_iret hX hY dX4_span_35 hf
  replace hf := z_neg hf c2
  by_cases c3 : (zg_i σ 4 a1.toNatClampNeg) = (4 : Int32)
  · replace hf := z_pos hf c3
    refine zt_tabIn hX dX4_span_6 (by rw [c3]; decide) (by rw [c3]; decide) (off := 30) (by rw [c3]; rfl) (tgt := 36) (by decide) ?_
    refine zt_sipush hX dX4_span_36 (v := (10000 : Int32)) (by decide) ?_
    exact zt_iret hX hY dX4_span_39 hf
  replace hf := z_neg hf c3
  by_cases c4 : (zg_i σ 4 a1.toNatClampNeg) = (5 : Int32)
  · replace hf := z_pos hf c4
    refine zt_tabIn hX dX4_span_6 (by rw [c4]; decide) (by rw [c4]; decide) (off := 34) (by rw [c4]; rfl) (tgt := 40) (by decide) ?_
    refine zt_ldc hX dX4_span_40 kw_341 ?_
    exact zt_iret hX hY dX4_span_42 hf
  replace hf := z_neg hf c4
  have qc2 := lv_neT c2 (show (3 : Int32).toInt = 3 from rfl)
  have qc3 := lv_neT c3 (show (4 : Int32).toInt = 4 from rfl)
  have qc4 := lv_neT c4 (show (5 : Int32).toInt = 5 from rfl)
  refine zt_tabOut hX dX4_span_6 (by omega) (tgt := 43) (by decide) ?_
  refine zt_ldc hX dX4_span_43 kw_342 ?_
  exact zt_iret hX hY dX4_span_45 hf

theorem dX4_advance_0 : decode cX4_advance 0 = .ok (.aload_n 0, 1) := by decide +kernel
theorem dX4_advance_1 : decode cX4_advance 1 = .ok (.getfield 36, 3) := by decide +kernel
theorem dX4_advance_4 : decode cX4_advance 4 = .ok (.iload_n 1, 1) := by decide +kernel
theorem dX4_advance_5 : decode cX4_advance 5 = .ok (.aaload, 1) := by decide +kernel
theorem dX4_advance_6 : decode cX4_advance 6 = .ok (.iload_n 2, 1) := by decide +kernel
theorem dX4_advance_7 : decode cX4_advance 7 = .ok (.iaload, 1) := by decide +kernel
theorem dX4_advance_8 : decode cX4_advance 8 = .ok (.istore 4, 2) := by decide +kernel
theorem dX4_advance_10 : decode cX4_advance 10 = .ok (.aload_n 0, 1) := by decide +kernel
theorem dX4_advance_11 : decode cX4_advance 11 = .ok (.getfield 36, 3) := by decide +kernel
theorem dX4_advance_14 : decode cX4_advance 14 = .ok (.iload_n 1, 1) := by decide +kernel
theorem dX4_advance_15 : decode cX4_advance 15 = .ok (.aaload, 1) := by decide +kernel
theorem dX4_advance_16 : decode cX4_advance 16 = .ok (.iload_n 3, 1) := by decide +kernel
theorem dX4_advance_17 : decode cX4_advance 17 = .ok (.iaload, 1) := by decide +kernel
theorem dX4_advance_18 : decode cX4_advance 18 = .ok (.istore 5, 2) := by decide +kernel
theorem dX4_advance_20 : decode cX4_advance 20 = .ok (.iload 4, 2) := by decide +kernel
theorem dX4_advance_22 : decode cX4_advance 22 = .ok (.ldc 55, 2) := by decide +kernel
theorem dX4_advance_24 : decode cX4_advance 24 = .ok (.if_icmp .eq 10, 3) := by decide +kernel
theorem dX4_advance_27 : decode cX4_advance 27 = .ok (.iload 5, 2) := by decide +kernel
theorem dX4_advance_29 : decode cX4_advance 29 = .ok (.ldc 55, 2) := by decide +kernel
theorem dX4_advance_31 : decode cX4_advance 31 = .ok (.if_icmp .ne 6, 3) := by decide +kernel
theorem dX4_advance_34 : decode cX4_advance 34 = .ok (.ldc 55, 2) := by decide +kernel
theorem dX4_advance_36 : decode cX4_advance 36 = .ok (.ireturn, 1) := by decide +kernel
theorem dX4_advance_37 : decode cX4_advance 37 = .ok (.iload 5, 2) := by decide +kernel
theorem dX4_advance_39 : decode cX4_advance 39 = .ok (.iload 4, 2) := by decide +kernel
theorem dX4_advance_41 : decode cX4_advance 41 = .ok (.if_icmp .lt 11, 3) := by decide +kernel
theorem dX4_advance_44 : decode cX4_advance 44 = .ok (.iload 5, 2) := by decide +kernel
theorem dX4_advance_46 : decode cX4_advance 46 = .ok (.iload 4, 2) := by decide +kernel
theorem dX4_advance_48 : decode cX4_advance 48 = .ok (.isub, 1) := by decide +kernel
theorem dX4_advance_49 : decode cX4_advance 49 = .ok (.goto 14, 3) := by decide +kernel
theorem dX4_advance_52 : decode cX4_advance 52 = .ok (.iload 5, 2) := by decide +kernel
theorem dX4_advance_54 : decode cX4_advance 54 = .ok (.iload 4, 2) := by decide +kernel
theorem dX4_advance_56 : decode cX4_advance 56 = .ok (.isub, 1) := by decide +kernel
theorem dX4_advance_57 : decode cX4_advance 57 = .ok (.aload_n 0, 1) := by decide +kernel
theorem dX4_advance_58 : decode cX4_advance 58 = .ok (.iload_n 1, 1) := by decide +kernel
theorem dX4_advance_59 : decode cX4_advance 59 = .ok (.invokevirtual 66, 3) := by decide +kernel
theorem dX4_advance_62 : decode cX4_advance 62 = .ok (.iadd, 1) := by decide +kernel
theorem dX4_advance_63 : decode cX4_advance 63 = .ok (.ireturn, 1) := by decide +kernel
abbrev rm_X4_advance : Room := { frames := 1, cells := 0, slots := 0, locals := 21 }
theorem hy_X4_advance : yX4_advance.cls ≠ "java/lang/invoke/MethodHandle" ∧ yX4_advance.cls ≠ "java/lang/invoke/VarHandle" ∧ (parseMethodDescriptor yX4_advance.desc).map (fun d => d.parameters.length) = some 3 := by decide +kernel
def w_X4_advance (a1 : Int32) (a2 : Int32) (a3 : Int32) (σ : z_S) (Q : Int32 → z_S → Prop) : Prop :=
  vp_in a1 10 ∧ vp_in a2 13 ∧ ∀ y3 : Int32, y3 = (zg_i σ (8 + a1.toNatClampNeg) a2.toNatClampNeg) → vp_in a1 10 ∧ vp_in a3 13 ∧ ∀ y6 : Int32, y6 = (zg_i σ (8 + a1.toNatClampNeg) a3.toNatClampNeg) → if y3 = (-2000000000 : Int32) then (Q (-2000000000 : Int32) σ) else (if y6 = (-2000000000 : Int32) then (Q (-2000000000 : Int32) σ) else (if y6 < y3 then (w_X4_span a1 σ (fun r10 σ11 => Q ((y6 - y3) + r10) σ11)) else (Q (y6 - y3) σ)))
set_option maxHeartbeats 4000000 in
set_option maxRecDepth 100000 in
theorem c_X4_advance {l : Launch} {D : va_G} {cI cJ cM cS : ClassId} {n0 : Nat} {a1 : Int32} {a2 : Int32} {a3 : Int32} {σ : z_S} {Q : Int32 → z_S → Prop} (hf : w_X4_advance a1 a2 a3 σ Q) : z_ci l D cI cJ cM cS n0 yX4_advance cX4_advance 6 .int rm_X4_advance 0 0 [.ref (n0 + 1), .int a1, .int a2, .int a3] σ Q := by
  refine z_ofi (by decide +kernel) (Nat.le_of_ble_eq_true rfl) (fun p e s m args below meth c hX hY => ?_)
  unfold w_X4_advance at hf
  refine zt_L (L' := [(0, .ref (n0 + 1)), (1, .int a1), (2, .int a2), (3, .int a3)]) rfl ?_
  refine zt_aload_n hX 0 dX4_advance_0 rfl rfl ?_
  refine zt_get_X4 hX (by decide) (zE_1 _ _) 9 (by decide) kw_114 rfl rfl dX4_advance_1 ?_
  refine zt_iload_n hX 1 dX4_advance_4 rfl rfl ?_
  obtain ⟨h1, hf⟩ := hf
  refine zt_aaloadM hX dX4_advance_5 (by decide) rfl (k1 := 8) rfl h1 ?_
  refine zt_iload_n hX 2 dX4_advance_6 rfl rfl ?_
  obtain ⟨h2, hf⟩ := hf
  refine zt_iaload hX dX4_advance_7 (z_row8 (z_lt h1)) (z_sh8 (z_lt h1)) h2 ?_
  refine zt_nmi (fun y3 e3 => ?_)
  replace hf := hf y3 e3
  refine zt_istore (L' := [(4, .int y3), (0, .ref (n0 + 1)), (1, .int a1), (2, .int a2), (3, .int a3)]) hX dX4_advance_8 (by decide) rfl ?_
  refine zt_aload_n hX 1 dX4_advance_10 rfl rfl ?_
  refine zt_get_X4 hX (by decide) (zE_1 _ _) 9 (by decide) kw_114 rfl rfl dX4_advance_11 ?_
  refine zt_iload_n hX 2 dX4_advance_14 rfl rfl ?_
  obtain ⟨h4, hf⟩ := hf
  refine zt_aaloadM hX dX4_advance_15 (by decide) rfl (k1 := 8) rfl h4 ?_
  refine zt_iload_n hX 4 dX4_advance_16 rfl rfl ?_
  obtain ⟨h5, hf⟩ := hf
  refine zt_iaload hX dX4_advance_17 (z_row8 (z_lt h4)) (z_sh8 (z_lt h4)) h5 ?_
  refine zt_nmi (fun y6 e6 => ?_)
  replace hf := hf y6 e6
  refine zt_istore (L' := [(5, .int y6), (4, .int y3), (0, .ref (n0 + 1)), (1, .int a1), (2, .int a2), (3, .int a3)]) hX dX4_advance_18 (by decide) rfl ?_
  refine zt_iload hX 1 dX4_advance_20 rfl ?_
  refine zt_ldc hX dX4_advance_22 kw_281 ?_
  refine zt_icmp_eq hX dX4_advance_24 (tgt := 34) (by decide) (fun c7 => ?_) (fun c7 => ?_)
  · replace hf := z_pos hf c7
    refine zt_ldc hX dX4_advance_34 kw_281 ?_
    exact zt_iret hX hY dX4_advance_36 hf
  · replace hf := z_neg hf c7
    refine zt_iload hX 0 dX4_advance_27 rfl ?_
    refine zt_ldc hX dX4_advance_29 kw_281 ?_
    refine zt_icmp_ne hX dX4_advance_31 (tgt := 37) (by decide) (fun c8 => ?_) (fun c8 => ?_)
    · replace hf := z_neg hf c8
      refine zt_iload hX 0 dX4_advance_37 rfl ?_
      refine zt_iload hX 1 dX4_advance_39 rfl ?_
      refine zt_icmp_lt hX dX4_advance_41 (tgt := 52) (by decide) (fun c9 => ?_) (fun c9 => ?_)
      · replace hf := z_pos hf c9
        refine zt_iload hX 0 dX4_advance_52 rfl ?_
        refine zt_iload hX 1 dX4_advance_54 rfl ?_
        refine zt_isub hX dX4_advance_56 ?_
        refine zt_aload_n hX 2 dX4_advance_57 rfl rfl ?_
        refine zt_iload_n hX 3 dX4_advance_58 rfl rfl ?_
        refine zt_calliV hX hY (av := [.int a1]) (c_X4_span hf) dX4_advance_59 rfl kw_366 kw_338 kw_339 kw_62 kw_340 ⟨rfl, rfl⟩ hy_X4_span ⟨by decide, by decide⟩ ⟨by decide, by decide⟩ (Nat.le_of_ble_eq_true rfl) (by decide) (zE_1 _ _) rfl rfl (fun r10 σ11 hf => ?_)
        refine zt_iadd hX dX4_advance_62 ?_
        exact zt_iret hX hY dX4_advance_63 hf
      · replace hf := z_neg hf c9
        refine zt_iload hX 0 dX4_advance_44 rfl ?_
        refine zt_iload hX 1 dX4_advance_46 rfl ?_
        refine zt_isub hX dX4_advance_48 ?_
        refine zt_goto hX dX4_advance_49 (tgt := 63) (by decide) ?_
        exact zt_iret hX hY dX4_advance_63 hf
    · replace hf := z_pos hf c8
      refine zt_ldc hX dX4_advance_34 kw_281 ?_
      exact zt_iret hX hY dX4_advance_36 hf

theorem dX1_estimate_0 : decode cX1_estimate 0 = .ok (.aload_n 1, 1) := by decide +kernel
theorem dX1_estimate_1 : decode cX1_estimate 1 = .ok (.iload_n 2, 1) := by decide +kernel
theorem dX1_estimate_2 : decode cX1_estimate 2 = .ok (.iload_n 3, 1) := by decide +kernel
theorem dX1_estimate_3 : decode cX1_estimate 3 = .ok (.iload 4, 2) := by decide +kernel
theorem dX1_estimate_5 : decode cX1_estimate 5 = .ok (.iconst 1, 1) := by decide +kernel
theorem dX1_estimate_6 : decode cX1_estimate 6 = .ok (.iadd, 1) := by decide +kernel
theorem dX1_estimate_7 : decode cX1_estimate 7 = .ok (.invokevirtual 40, 3) := by decide +kernel
theorem dX1_estimate_10 : decode cX1_estimate 10 = .ok (.istore 5, 2) := by decide +kernel
theorem dX1_estimate_12 : decode cX1_estimate 12 = .ok (.iload 4, 2) := by decide +kernel
theorem dX1_estimate_14 : decode cX1_estimate 14 = .ok (.iload_n 3, 1) := by decide +kernel
theorem dX1_estimate_15 : decode cX1_estimate 15 = .ok (.isub, 1) := by decide +kernel
theorem dX1_estimate_16 : decode cX1_estimate 16 = .ok (.iconst 1, 1) := by decide +kernel
theorem dX1_estimate_17 : decode cX1_estimate 17 = .ok (.iadd, 1) := by decide +kernel
theorem dX1_estimate_18 : decode cX1_estimate 18 = .ok (.istore 6, 2) := by decide +kernel
theorem dX1_estimate_20 : decode cX1_estimate 20 = .ok (.aload_n 0, 1) := by decide +kernel
theorem dX1_estimate_21 : decode cX1_estimate 21 = .ok (.iload_n 3, 1) := by decide +kernel
theorem dX1_estimate_22 : decode cX1_estimate 22 = .ok (.iload 4, 2) := by decide +kernel
theorem dX1_estimate_24 : decode cX1_estimate 24 = .ok (.invokevirtual 51, 3) := by decide +kernel
theorem dX1_estimate_27 : decode cX1_estimate 27 = .ok (.ifCond .eq 44, 3) := by decide +kernel
theorem dX1_estimate_30 : decode cX1_estimate 30 = .ok (.iload 5, 2) := by decide +kernel
theorem dX1_estimate_32 : decode cX1_estimate 32 = .ok (.ldc 55, 2) := by decide +kernel
theorem dX1_estimate_34 : decode cX1_estimate 34 = .ok (.if_icmp .eq 37, 3) := by decide +kernel
theorem dX1_estimate_37 : decode cX1_estimate 37 = .ok (.iload 5, 2) := by decide +kernel
theorem dX1_estimate_39 : decode cX1_estimate 39 = .ok (.aload_n 1, 1) := by decide +kernel
theorem dX1_estimate_40 : decode cX1_estimate 40 = .ok (.getfield 56, 3) := by decide +kernel
theorem dX1_estimate_43 : decode cX1_estimate 43 = .ok (.iload_n 2, 1) := by decide +kernel
theorem dX1_estimate_44 : decode cX1_estimate 44 = .ok (.iaload, 1) := by decide +kernel
theorem dX1_estimate_45 : decode cX1_estimate 45 = .ok (.iload 6, 2) := by decide +kernel
theorem dX1_estimate_47 : decode cX1_estimate 47 = .ok (.imul, 1) := by decide +kernel
theorem dX1_estimate_48 : decode cX1_estimate 48 = .ok (.if_icmp .gt 23, 3) := by decide +kernel
theorem dX1_estimate_51 : decode cX1_estimate 51 = .ok (.aload_n 0, 1) := by decide +kernel
theorem dX1_estimate_52 : decode cX1_estimate 52 = .ok (.iload_n 2, 1) := by decide +kernel
theorem dX1_estimate_53 : decode cX1_estimate 53 = .ok (.iload_n 3, 1) := by decide +kernel
theorem dX1_estimate_54 : decode cX1_estimate 54 = .ok (.iload 4, 2) := by decide +kernel
theorem dX1_estimate_56 : decode cX1_estimate 56 = .ok (.iload 5, 2) := by decide +kernel
theorem dX1_estimate_58 : decode cX1_estimate 58 = .ok (.aload_n 1, 1) := by decide +kernel
theorem dX1_estimate_59 : decode cX1_estimate 59 = .ok (.getfield 44, 3) := by decide +kernel
theorem dX1_estimate_62 : decode cX1_estimate 62 = .ok (.iload_n 2, 1) := by decide +kernel
theorem dX1_estimate_63 : decode cX1_estimate 63 = .ok (.iaload, 1) := by decide +kernel
theorem dX1_estimate_64 : decode cX1_estimate 64 = .ok (.imul, 1) := by decide +kernel
theorem dX1_estimate_65 : decode cX1_estimate 65 = .ok (.invokevirtual 59, 3) := by decide +kernel
theorem dX1_estimate_68 : decode cX1_estimate 68 = .ok (.goto 91, 3) := by decide +kernel
theorem dX1_estimate_71 : decode cX1_estimate 71 = .ok (.iload_n 3, 1) := by decide +kernel
theorem dX1_estimate_72 : decode cX1_estimate 72 = .ok (.ifCond .le 21, 3) := by decide +kernel
theorem dX1_estimate_75 : decode cX1_estimate 75 = .ok (.iload 4, 2) := by decide +kernel
theorem dX1_estimate_77 : decode cX1_estimate 77 = .ok (.bipush 11, 2) := by decide +kernel
theorem dX1_estimate_79 : decode cX1_estimate 79 = .ok (.if_icmp .ge 14, 3) := by decide +kernel
theorem dX1_estimate_82 : decode cX1_estimate 82 = .ok (.aload_n 0, 1) := by decide +kernel
theorem dX1_estimate_83 : decode cX1_estimate 83 = .ok (.iload_n 2, 1) := by decide +kernel
theorem dX1_estimate_84 : decode cX1_estimate 84 = .ok (.iload_n 3, 1) := by decide +kernel
theorem dX1_estimate_85 : decode cX1_estimate 85 = .ok (.iload 4, 2) := by decide +kernel
theorem dX1_estimate_87 : decode cX1_estimate 87 = .ok (.invokevirtual 63, 3) := by decide +kernel
theorem dX1_estimate_90 : decode cX1_estimate 90 = .ok (.goto 69, 3) := by decide +kernel
theorem dX1_estimate_93 : decode cX1_estimate 93 = .ok (.iload_n 3, 1) := by decide +kernel
theorem dX1_estimate_94 : decode cX1_estimate 94 = .ok (.ifCond .le 25, 3) := by decide +kernel
theorem dX1_estimate_97 : decode cX1_estimate 97 = .ok (.aload_n 0, 1) := by decide +kernel
theorem dX1_estimate_98 : decode cX1_estimate 98 = .ok (.iload_n 2, 1) := by decide +kernel
theorem dX1_estimate_99 : decode cX1_estimate 99 = .ok (.iload_n 3, 1) := by decide +kernel
theorem dX1_estimate_100 : decode cX1_estimate 100 = .ok (.iload 4, 2) := by decide +kernel
theorem dX1_estimate_102 : decode cX1_estimate 102 = .ok (.aload_n 0, 1) := by decide +kernel
theorem dX1_estimate_103 : decode cX1_estimate 103 = .ok (.getfield 11, 3) := by decide +kernel
theorem dX1_estimate_106 : decode cX1_estimate 106 = .ok (.iload_n 2, 1) := by decide +kernel
theorem dX1_estimate_107 : decode cX1_estimate 107 = .ok (.aaload, 1) := by decide +kernel
theorem dX1_estimate_108 : decode cX1_estimate 108 = .ok (.iload_n 3, 1) := by decide +kernel
theorem dX1_estimate_109 : decode cX1_estimate 109 = .ok (.iconst 1, 1) := by decide +kernel
theorem dX1_estimate_110 : decode cX1_estimate 110 = .ok (.isub, 1) := by decide +kernel
theorem dX1_estimate_111 : decode cX1_estimate 111 = .ok (.iaload, 1) := by decide +kernel
theorem dX1_estimate_112 : decode cX1_estimate 112 = .ok (.iconst 3, 1) := by decide +kernel
theorem dX1_estimate_113 : decode cX1_estimate 113 = .ok (.invokevirtual 67, 3) := by decide +kernel
theorem dX1_estimate_116 : decode cX1_estimate 116 = .ok (.goto 43, 3) := by decide +kernel
theorem dX1_estimate_119 : decode cX1_estimate 119 = .ok (.iload 4, 2) := by decide +kernel
theorem dX1_estimate_121 : decode cX1_estimate 121 = .ok (.bipush 11, 2) := by decide +kernel
theorem dX1_estimate_123 : decode cX1_estimate 123 = .ok (.if_icmp .ge 26, 3) := by decide +kernel
theorem dX1_estimate_126 : decode cX1_estimate 126 = .ok (.aload_n 0, 1) := by decide +kernel
theorem dX1_estimate_127 : decode cX1_estimate 127 = .ok (.iload_n 2, 1) := by decide +kernel
theorem dX1_estimate_128 : decode cX1_estimate 128 = .ok (.iload_n 3, 1) := by decide +kernel
theorem dX1_estimate_129 : decode cX1_estimate 129 = .ok (.iload 4, 2) := by decide +kernel
theorem dX1_estimate_131 : decode cX1_estimate 131 = .ok (.aload_n 0, 1) := by decide +kernel
theorem dX1_estimate_132 : decode cX1_estimate 132 = .ok (.getfield 11, 3) := by decide +kernel
theorem dX1_estimate_135 : decode cX1_estimate 135 = .ok (.iload_n 2, 1) := by decide +kernel
theorem dX1_estimate_136 : decode cX1_estimate 136 = .ok (.aaload, 1) := by decide +kernel
theorem dX1_estimate_137 : decode cX1_estimate 137 = .ok (.iload 4, 2) := by decide +kernel
theorem dX1_estimate_139 : decode cX1_estimate 139 = .ok (.iconst 1, 1) := by decide +kernel
theorem dX1_estimate_140 : decode cX1_estimate 140 = .ok (.iadd, 1) := by decide +kernel
theorem dX1_estimate_141 : decode cX1_estimate 141 = .ok (.iaload, 1) := by decide +kernel
theorem dX1_estimate_142 : decode cX1_estimate 142 = .ok (.iconst 3, 1) := by decide +kernel
theorem dX1_estimate_143 : decode cX1_estimate 143 = .ok (.invokevirtual 67, 3) := by decide +kernel
theorem dX1_estimate_146 : decode cX1_estimate 146 = .ok (.goto 13, 3) := by decide +kernel
theorem dX1_estimate_149 : decode cX1_estimate 149 = .ok (.aload_n 0, 1) := by decide +kernel
theorem dX1_estimate_150 : decode cX1_estimate 150 = .ok (.iload_n 2, 1) := by decide +kernel
theorem dX1_estimate_151 : decode cX1_estimate 151 = .ok (.iload_n 3, 1) := by decide +kernel
theorem dX1_estimate_152 : decode cX1_estimate 152 = .ok (.iload 4, 2) := by decide +kernel
theorem dX1_estimate_154 : decode cX1_estimate 154 = .ok (.iconst 0, 1) := by decide +kernel
theorem dX1_estimate_155 : decode cX1_estimate 155 = .ok (.iconst 4, 1) := by decide +kernel
theorem dX1_estimate_156 : decode cX1_estimate 156 = .ok (.invokevirtual 67, 3) := by decide +kernel
theorem dX1_estimate_159 : decode cX1_estimate 159 = .ok (.return_, 1) := by decide +kernel
abbrev rm_X1_estimate : Room := { frames := 2, cells := 0, slots := 0, locals := 46 }
theorem hy_X1_estimate : yX1_estimate.cls ≠ "java/lang/invoke/MethodHandle" ∧ yX1_estimate.cls ≠ "java/lang/invoke/VarHandle" ∧ (parseMethodDescriptor yX1_estimate.desc).map (fun d => d.parameters.length) = some 4 := by decide +kernel
def w_X1_estimate_93  (Q : z_S → Prop) (x2 : Int32) (x3 : Int32) (x4 : Int32) (σ : z_S) : Prop :=
  if x3 ≤ 0 then (if (11 : Int32) ≤ x4 then (w_X1_level x2 x3 x4 (0 : Int32) (4 : Int32) σ (fun σ11 => Q σ11)) else (vp_in x2 10 ∧ vp_in (x4 + (1 : Int32)) 12 ∧ w_X1_level x2 x3 x4 (zg_i σ (31 + x2.toNatClampNeg) (x4 + (1 : Int32)).toNatClampNeg) (3 : Int32) σ (fun σ15 => Q σ15))) else (vp_in x2 10 ∧ vp_in (x3 - (1 : Int32)) 12 ∧ w_X1_level x2 x3 x4 (zg_i σ (31 + x2.toNatClampNeg) (x3 - (1 : Int32)).toNatClampNeg) (3 : Int32) σ (fun σ19 => Q σ19))
def w_X1_estimate_71  (Q : z_S → Prop) (x2 : Int32) (x3 : Int32) (x4 : Int32) (σ : z_S) : Prop :=
  if x3 ≤ 0 then (w_X1_estimate_93 Q x2 x3 x4 σ) else (if (11 : Int32) ≤ x4 then (w_X1_estimate_93 Q x2 x3 x4 σ) else (w_X1_interpolate x2 x3 x4 σ (fun σ22 => Q σ22)))
def w_X1_estimate (a2 : Int32) (a3 : Int32) (a4 : Int32) (σ : z_S) (Q : z_S → Prop) : Prop :=
  w_X4_advance a2 a3 (a4 + (1 : Int32)) σ (fun r1 σ2 => ∀ y3 : Int32, y3 = ((a4 - a3) + (1 : Int32)) → w_X1_isAllMissing a3 a4 σ2 (fun r4 σ5 => if r4 = 0 then (w_X1_estimate_71 Q a2 a3 a4 σ5) else (if r1 = (-2000000000 : Int32) then (w_X1_estimate_71 Q a2 a3 a4 σ5) else (vp_in a2 10 ∧ if ((zg_i σ5 5 a2.toNatClampNeg) * y3) < r1 then (w_X1_estimate_71 Q a2 a3 a4 σ5) else (vp_in a2 10 ∧ w_X1_spread a2 a3 a4 (r1 * (zg_i σ5 3 a2.toNatClampNeg)) σ5 (fun σ28 => Q σ28))))))
set_option maxHeartbeats 4000000 in
set_option maxRecDepth 100000 in
theorem t_X1_estimate_93 {l : Launch} {D : va_G} {cI cJ cM cS : ClassId} {n0 : Nat} {p : Program} {e : Env} {s : State} {m : MethodId} {args : Array Value} {below : List Frame} {meth : Method} {c : Code}  {Q : z_S → Prop} (hX : z_X D cI cJ cM cS p s m args c cX1_estimate 7 yX1_estimate.cls) (hY : z_Y s meth none)  (x2 : Int32) (x3 : Int32) (x4 : Int32) (σ : z_S) (hf : w_X1_estimate_93  Q x2 x3 x4 σ) : z_t D cI cJ cM cS n0 p l e rm_X1_estimate s m args below meth c 7 (MQ below (va_Qv Q (fun u t => z_Bq D cI cJ cM cS n0 u t) (z_Ab n0)) args s 0 0 (z_Ab n0)) 0 0 93 [(0, .ref (n0 + 29)), (2, .int x2), (3, .int x3), (4, .int x4)] [] σ := by
  unfold w_X1_estimate_93 at hf
  refine zt_iload_n hX 2 dX1_estimate_93 rfl rfl ?_
  refine zt_if_le hX dX1_estimate_94 (tgt := 119) (by decide) (fun c8 => ?_) (fun c8 => ?_)
  · replace hf := z_pos hf c8
    refine zt_iload hX 3 dX1_estimate_119 rfl ?_
    refine zt_bipush hX dX1_estimate_121 (v := (11 : Int32)) (by decide) ?_
    refine zt_icmp_ge hX dX1_estimate_123 (tgt := 149) (by decide) (fun c9 => ?_) (fun c9 => ?_)
    · replace hf := z_pos hf c9
      refine zt_aload_n hX 0 dX1_estimate_149 rfl rfl ?_
      refine zt_iload_n hX 1 dX1_estimate_150 rfl rfl ?_
      refine zt_iload_n hX 2 dX1_estimate_151 rfl rfl ?_
      refine zt_iload hX 3 dX1_estimate_152 rfl ?_
      refine zt_iconst hX dX1_estimate_154 (v := (0 : Int32)) (by decide) ?_
      refine zt_iconst hX dX1_estimate_155 (v := (4 : Int32)) (by decide) ?_
      refine zt_callvV hX hY (av := [.int x2, .int x3, .int x4, .int (0 : Int32), .int (4 : Int32)]) (c_X1_level hf) dX1_estimate_156 rfl kw_406 kw_408 kw_5 kw_64 kw_409 ⟨rfl, rfl⟩ hy_X1_level ⟨by decide, by decide⟩ ⟨by decide, by decide⟩ (Nat.le_of_ble_eq_true rfl) (by decide) (zE_29 _ _) rfl rfl (fun σ11 hf => ?_)
      exact zt_vret hX hY dX1_estimate_159 hf
    · replace hf := z_neg hf c9
      refine zt_aload_n hX 0 dX1_estimate_126 rfl rfl ?_
      refine zt_iload_n hX 1 dX1_estimate_127 rfl rfl ?_
      refine zt_iload_n hX 2 dX1_estimate_128 rfl rfl ?_
      refine zt_iload hX 3 dX1_estimate_129 rfl ?_
      refine zt_aload_n hX 0 dX1_estimate_131 rfl rfl ?_
      refine zt_get_X1 hX (by decide) (zE_29 _ _) 0 (by decide) kw_166 rfl rfl dX1_estimate_132 ?_
      refine zt_iload_n hX 1 dX1_estimate_135 rfl rfl ?_
      obtain ⟨h12, hf⟩ := hf
      refine zt_aaloadM hX dX1_estimate_136 (by decide) rfl (k1 := 31) rfl h12 ?_
      refine zt_iload hX 3 dX1_estimate_137 rfl ?_
      refine zt_iconst hX dX1_estimate_139 (v := (1 : Int32)) (by decide) ?_
      refine zt_iadd hX dX1_estimate_140 ?_
      obtain ⟨h13, hf⟩ := hf
      refine zt_iaload hX dX1_estimate_141 (z_row31 (z_lt h12)) (z_sh31 (z_lt h12)) h13 ?_
      refine zt_iconst hX dX1_estimate_142 (v := (3 : Int32)) (by decide) ?_
      refine zt_callvV hX hY (av := [.int x2, .int x3, .int x4, .int (zg_i σ (31 + x2.toNatClampNeg) (x4 + (1 : Int32)).toNatClampNeg), .int (3 : Int32)]) (c_X1_level hf) dX1_estimate_143 rfl kw_406 kw_408 kw_5 kw_64 kw_409 ⟨rfl, rfl⟩ hy_X1_level ⟨by decide, by decide⟩ ⟨by decide, by decide⟩ (Nat.le_of_ble_eq_true rfl) (by decide) (zE_29 _ _) rfl rfl (fun σ15 hf => ?_)
      refine zt_goto hX dX1_estimate_146 (tgt := 159) (by decide) ?_
      exact zt_vret hX hY dX1_estimate_159 hf
  · replace hf := z_neg hf c8
    refine zt_aload_n hX 0 dX1_estimate_97 rfl rfl ?_
    refine zt_iload_n hX 1 dX1_estimate_98 rfl rfl ?_
    refine zt_iload_n hX 2 dX1_estimate_99 rfl rfl ?_
    refine zt_iload hX 3 dX1_estimate_100 rfl ?_
    refine zt_aload_n hX 0 dX1_estimate_102 rfl rfl ?_
    refine zt_get_X1 hX (by decide) (zE_29 _ _) 0 (by decide) kw_166 rfl rfl dX1_estimate_103 ?_
    refine zt_iload_n hX 1 dX1_estimate_106 rfl rfl ?_
    obtain ⟨h16, hf⟩ := hf
    refine zt_aaloadM hX dX1_estimate_107 (by decide) rfl (k1 := 31) rfl h16 ?_
    refine zt_iload_n hX 2 dX1_estimate_108 rfl rfl ?_
    refine zt_iconst hX dX1_estimate_109 (v := (1 : Int32)) (by decide) ?_
    refine zt_isub hX dX1_estimate_110 ?_
    obtain ⟨h17, hf⟩ := hf
    refine zt_iaload hX dX1_estimate_111 (z_row31 (z_lt h16)) (z_sh31 (z_lt h16)) h17 ?_
    refine zt_iconst hX dX1_estimate_112 (v := (3 : Int32)) (by decide) ?_
    refine zt_callvV hX hY (av := [.int x2, .int x3, .int x4, .int (zg_i σ (31 + x2.toNatClampNeg) (x3 - (1 : Int32)).toNatClampNeg), .int (3 : Int32)]) (c_X1_level hf) dX1_estimate_113 rfl kw_406 kw_408 kw_5 kw_64 kw_409 ⟨rfl, rfl⟩ hy_X1_level ⟨by decide, by decide⟩ ⟨by decide, by decide⟩ (Nat.le_of_ble_eq_true rfl) (by decide) (zE_29 _ _) rfl rfl (fun σ19 hf => ?_)
    refine zt_goto hX dX1_estimate_116 (tgt := 159) (by decide) ?_
    exact zt_vret hX hY dX1_estimate_159 hf
set_option maxHeartbeats 4000000 in
set_option maxRecDepth 100000 in
theorem t_X1_estimate_71 {l : Launch} {D : va_G} {cI cJ cM cS : ClassId} {n0 : Nat} {p : Program} {e : Env} {s : State} {m : MethodId} {args : Array Value} {below : List Frame} {meth : Method} {c : Code}  {Q : z_S → Prop} (hX : z_X D cI cJ cM cS p s m args c cX1_estimate 7 yX1_estimate.cls) (hY : z_Y s meth none)  (x2 : Int32) (x3 : Int32) (x4 : Int32) (σ : z_S) (hf : w_X1_estimate_71  Q x2 x3 x4 σ) : z_t D cI cJ cM cS n0 p l e rm_X1_estimate s m args below meth c 7 (MQ below (va_Qv Q (fun u t => z_Bq D cI cJ cM cS n0 u t) (z_Ab n0)) args s 0 0 (z_Ab n0)) 0 0 71 [(0, .ref (n0 + 29)), (2, .int x2), (3, .int x3), (4, .int x4)] [] σ := by
  unfold w_X1_estimate_71 at hf
  refine zt_iload_n hX 2 dX1_estimate_71 rfl rfl ?_
  refine zt_if_le hX dX1_estimate_72 (tgt := 93) (by decide) (fun c7 => ?_) (fun c7 => ?_)
  · replace hf := z_pos hf c7
    exact zt_sub [0, 1, 2, 3] rfl (t_X1_estimate_93 hX hY _ _ _ _ hf)
  · replace hf := z_neg hf c7
    refine zt_iload hX 3 dX1_estimate_75 rfl ?_
    refine zt_bipush hX dX1_estimate_77 (v := (11 : Int32)) (by decide) ?_
    refine zt_icmp_ge hX dX1_estimate_79 (tgt := 93) (by decide) (fun c20 => ?_) (fun c20 => ?_)
    · replace hf := z_pos hf c20
      exact zt_sub [0, 1, 2, 3] rfl (t_X1_estimate_93 hX hY _ _ _ _ hf)
    · replace hf := z_neg hf c20
      refine zt_aload_n hX 0 dX1_estimate_82 rfl rfl ?_
      refine zt_iload_n hX 1 dX1_estimate_83 rfl rfl ?_
      refine zt_iload_n hX 2 dX1_estimate_84 rfl rfl ?_
      refine zt_iload hX 3 dX1_estimate_85 rfl ?_
      refine zt_callvV hX hY (av := [.int x2, .int x3, .int x4]) (c_X1_interpolate hf) dX1_estimate_87 rfl kw_402 kw_404 kw_4 kw_64 kw_405 ⟨rfl, rfl⟩ hy_X1_interpolate ⟨by decide, by decide⟩ ⟨by decide, by decide⟩ (Nat.le_of_ble_eq_true rfl) (by decide) (zE_29 _ _) rfl rfl (fun σ22 hf => ?_)
      refine zt_goto hX dX1_estimate_90 (tgt := 159) (by decide) ?_
      exact zt_vret hX hY dX1_estimate_159 hf
set_option maxHeartbeats 4000000 in
set_option maxRecDepth 100000 in
theorem c_X1_estimate {l : Launch} {D : va_G} {cI cJ cM cS : ClassId} {n0 : Nat} {a2 : Int32} {a3 : Int32} {a4 : Int32} {σ : z_S} {Q : z_S → Prop} (hf : w_X1_estimate a2 a3 a4 σ Q) : z_cv l D cI cJ cM cS n0 yX1_estimate cX1_estimate 7 rm_X1_estimate 0 0 [.ref (n0 + 29), .ref (n0 + 1), .int a2, .int a3, .int a4] σ Q := by
  refine z_ofv (by decide +kernel) (Nat.le_of_ble_eq_true rfl) (fun p e s m args below meth c hX hY => ?_)
  unfold w_X1_estimate at hf
  refine zt_L (L' := [(0, .ref (n0 + 29)), (1, .ref (n0 + 1)), (2, .int a2), (3, .int a3), (4, .int a4)]) rfl ?_
  refine zt_aload_n hX 1 dX1_estimate_0 rfl rfl ?_
  refine zt_iload_n hX 2 dX1_estimate_1 rfl rfl ?_
  refine zt_iload_n hX 3 dX1_estimate_2 rfl rfl ?_
  refine zt_iload hX 4 dX1_estimate_3 rfl ?_
  refine zt_iconst hX dX1_estimate_5 (v := (1 : Int32)) (by decide) ?_
  refine zt_iadd hX dX1_estimate_6 ?_
  refine zt_calliV hX hY (av := [.int a2, .int a3, .int (a4 + (1 : Int32))]) (c_X4_advance hf) dX1_estimate_7 rfl kw_388 kw_363 kw_364 kw_62 kw_365 ⟨rfl, rfl⟩ hy_X4_advance ⟨by decide, by decide⟩ ⟨by decide, by decide⟩ (Nat.le_of_ble_eq_true rfl) (by decide) (zE_1 _ _) rfl rfl (fun r1 σ2 hf => ?_)
  refine zt_istore (L' := [(5, .int r1), (0, .ref (n0 + 29)), (1, .ref (n0 + 1)), (2, .int a2), (3, .int a3), (4, .int a4)]) hX dX1_estimate_10 (by decide) rfl ?_
  refine zt_iload hX 5 dX1_estimate_12 rfl ?_
  refine zt_iload_n hX 4 dX1_estimate_14 rfl rfl ?_
  refine zt_isub hX dX1_estimate_15 ?_
  refine zt_iconst hX dX1_estimate_16 (v := (1 : Int32)) (by decide) ?_
  refine zt_iadd hX dX1_estimate_17 ?_
  refine zt_nmi (fun y3 e3 => ?_)
  replace hf := hf y3 e3
  refine zt_istore (L' := [(6, .int y3), (5, .int r1), (0, .ref (n0 + 29)), (1, .ref (n0 + 1)), (2, .int a2), (3, .int a3), (4, .int a4)]) hX dX1_estimate_18 (by decide) rfl ?_
  refine zt_aload_n hX 2 dX1_estimate_20 rfl rfl ?_
  refine zt_iload_n hX 5 dX1_estimate_21 rfl rfl ?_
  refine zt_iload hX 6 dX1_estimate_22 rfl ?_
  refine zt_calliV hX hY (av := [.int a3, .int a4]) (c_X1_isAllMissing hf) dX1_estimate_24 rfl kw_393 kw_395 kw_2 kw_64 kw_396 ⟨rfl, rfl⟩ hy_X1_isAllMissing ⟨by decide, by decide⟩ ⟨by decide, by decide⟩ (Nat.le_of_ble_eq_true rfl) (by decide) (zE_29 _ _) rfl rfl (fun r4 σ5 hf => ?_)
  refine zt_if_eq hX dX1_estimate_27 (tgt := 71) (by decide) (fun c6 => ?_) (fun c6 => ?_)
  · replace hf := z_pos hf c6
    exact zt_sub [2, 4, 5, 6] rfl (t_X1_estimate_71 hX hY _ _ _ _ hf)
  · replace hf := z_neg hf c6
    refine zt_iload hX 1 dX1_estimate_30 rfl ?_
    refine zt_ldc hX dX1_estimate_32 kw_397 ?_
    refine zt_icmp_eq hX dX1_estimate_34 (tgt := 71) (by decide) (fun c23 => ?_) (fun c23 => ?_)
    · replace hf := z_pos hf c23
      exact zt_sub [2, 4, 5, 6] rfl (t_X1_estimate_71 hX hY _ _ _ _ hf)
    · replace hf := z_neg hf c23
      refine zt_iload hX 1 dX1_estimate_37 rfl ?_
      refine zt_aload_n hX 3 dX1_estimate_39 rfl rfl ?_
      refine zt_get_X4 hX (by decide) (zE_1 _ _) 7 (by decide) kw_109 rfl rfl dX1_estimate_40 ?_
      refine zt_iload_n hX 4 dX1_estimate_43 rfl rfl ?_
      obtain ⟨h24, hf⟩ := hf
      refine zt_iaload hX dX1_estimate_44 (by decide) rfl h24 ?_
      refine zt_iload hX 0 dX1_estimate_45 rfl ?_
      refine zt_imul hX dX1_estimate_47 ?_
      refine zt_icmp_gt hX dX1_estimate_48 (tgt := 71) (by decide) (fun c25 => ?_) (fun c25 => ?_)
      · replace hf := z_pos hf c25
        exact zt_sub [2, 4, 5, 6] rfl (t_X1_estimate_71 hX hY _ _ _ _ hf)
      · replace hf := z_neg hf c25
        refine zt_aload_n hX 2 dX1_estimate_51 rfl rfl ?_
        refine zt_iload_n hX 4 dX1_estimate_52 rfl rfl ?_
        refine zt_iload_n hX 5 dX1_estimate_53 rfl rfl ?_
        refine zt_iload hX 6 dX1_estimate_54 rfl ?_
        refine zt_iload hX 1 dX1_estimate_56 rfl ?_
        refine zt_aload_n hX 3 dX1_estimate_58 rfl rfl ?_
        refine zt_get_X4 hX (by decide) (zE_1 _ _) 5 (by decide) kw_104 rfl rfl dX1_estimate_59 ?_
        refine zt_iload_n hX 4 dX1_estimate_62 rfl rfl ?_
        obtain ⟨h26, hf⟩ := hf
        refine zt_iaload hX dX1_estimate_63 (by decide) rfl h26 ?_
        refine zt_imul hX dX1_estimate_64 ?_
        refine zt_callvV hX hY (av := [.int a2, .int a3, .int a4, .int (r1 * (zg_i σ5 3 a2.toNatClampNeg))]) (c_X1_spread hf) dX1_estimate_65 rfl kw_398 kw_400 kw_3 kw_64 kw_401 ⟨rfl, rfl⟩ hy_X1_spread ⟨by decide, by decide⟩ ⟨by decide, by decide⟩ (Nat.le_of_ble_eq_true rfl) (by decide) (zE_29 _ _) rfl rfl (fun σ28 hf => ?_)
        refine zt_goto hX dX1_estimate_68 (tgt := 159) (by decide) ?_
        exact zt_vret hX hY dX1_estimate_159 hf

theorem dX4_judge_0 : decode cX4_judge 0 = .ok (.aload_n 0, 1) := by decide +kernel
theorem dX4_judge_1 : decode cX4_judge 1 = .ok (.iload_n 1, 1) := by decide +kernel
theorem dX4_judge_2 : decode cX4_judge 2 = .ok (.iload_n 2, 1) := by decide +kernel
theorem dX4_judge_3 : decode cX4_judge 3 = .ok (.iload_n 2, 1) := by decide +kernel
theorem dX4_judge_4 : decode cX4_judge 4 = .ok (.iconst 1, 1) := by decide +kernel
theorem dX4_judge_5 : decode cX4_judge 5 = .ok (.iadd, 1) := by decide +kernel
theorem dX4_judge_6 : decode cX4_judge 6 = .ok (.invokevirtual 70, 3) := by decide +kernel
theorem dX4_judge_9 : decode cX4_judge 9 = .ok (.istore_n 3, 1) := by decide +kernel
theorem dX4_judge_10 : decode cX4_judge 10 = .ok (.iload_n 3, 1) := by decide +kernel
theorem dX4_judge_11 : decode cX4_judge 11 = .ok (.ldc 55, 2) := by decide +kernel
theorem dX4_judge_13 : decode cX4_judge 13 = .ok (.if_icmp .ne 5, 3) := by decide +kernel
theorem dX4_judge_16 : decode cX4_judge 16 = .ok (.iconst 1, 1) := by decide +kernel
theorem dX4_judge_17 : decode cX4_judge 17 = .ok (.ireturn, 1) := by decide +kernel
theorem dX4_judge_18 : decode cX4_judge 18 = .ok (.iload_n 3, 1) := by decide +kernel
theorem dX4_judge_19 : decode cX4_judge 19 = .ok (.aload_n 0, 1) := by decide +kernel
theorem dX4_judge_20 : decode cX4_judge 20 = .ok (.getfield 28, 3) := by decide +kernel
theorem dX4_judge_23 : decode cX4_judge 23 = .ok (.iload_n 1, 1) := by decide +kernel
theorem dX4_judge_24 : decode cX4_judge 24 = .ok (.iaload, 1) := by decide +kernel
theorem dX4_judge_25 : decode cX4_judge 25 = .ok (.if_icmp .le 5, 3) := by decide +kernel
theorem dX4_judge_28 : decode cX4_judge 28 = .ok (.iconst 2, 1) := by decide +kernel
theorem dX4_judge_29 : decode cX4_judge 29 = .ok (.ireturn, 1) := by decide +kernel
theorem dX4_judge_30 : decode cX4_judge 30 = .ok (.iload_n 2, 1) := by decide +kernel
theorem dX4_judge_31 : decode cX4_judge 31 = .ok (.ifCond .eq 15, 3) := by decide +kernel
theorem dX4_judge_34 : decode cX4_judge 34 = .ok (.iload_n 2, 1) := by decide +kernel
theorem dX4_judge_35 : decode cX4_judge 35 = .ok (.bipush 11, 2) := by decide +kernel
theorem dX4_judge_37 : decode cX4_judge 37 = .ok (.if_icmp .eq 9, 3) := by decide +kernel
theorem dX4_judge_40 : decode cX4_judge 40 = .ok (.iload_n 3, 1) := by decide +kernel
theorem dX4_judge_41 : decode cX4_judge 41 = .ok (.bipush 10, 2) := by decide +kernel
theorem dX4_judge_43 : decode cX4_judge 43 = .ok (.if_icmp .ge 5, 3) := by decide +kernel
theorem dX4_judge_46 : decode cX4_judge 46 = .ok (.iconst 0, 1) := by decide +kernel
theorem dX4_judge_47 : decode cX4_judge 47 = .ok (.ireturn, 1) := by decide +kernel
theorem dX4_judge_48 : decode cX4_judge 48 = .ok (.aload_n 0, 1) := by decide +kernel
theorem dX4_judge_49 : decode cX4_judge 49 = .ok (.iload_n 1, 1) := by decide +kernel
theorem dX4_judge_50 : decode cX4_judge 50 = .ok (.iload_n 2, 1) := by decide +kernel
theorem dX4_judge_51 : decode cX4_judge 51 = .ok (.iconst 1, 1) := by decide +kernel
theorem dX4_judge_52 : decode cX4_judge 52 = .ok (.isub, 1) := by decide +kernel
theorem dX4_judge_53 : decode cX4_judge 53 = .ok (.iload_n 2, 1) := by decide +kernel
theorem dX4_judge_54 : decode cX4_judge 54 = .ok (.invokevirtual 70, 3) := by decide +kernel
theorem dX4_judge_57 : decode cX4_judge 57 = .ok (.istore 4, 2) := by decide +kernel
theorem dX4_judge_59 : decode cX4_judge 59 = .ok (.aload_n 0, 1) := by decide +kernel
theorem dX4_judge_60 : decode cX4_judge 60 = .ok (.iload_n 1, 1) := by decide +kernel
theorem dX4_judge_61 : decode cX4_judge 61 = .ok (.iload_n 2, 1) := by decide +kernel
theorem dX4_judge_62 : decode cX4_judge 62 = .ok (.iconst 1, 1) := by decide +kernel
theorem dX4_judge_63 : decode cX4_judge 63 = .ok (.iadd, 1) := by decide +kernel
theorem dX4_judge_64 : decode cX4_judge 64 = .ok (.iload_n 2, 1) := by decide +kernel
theorem dX4_judge_65 : decode cX4_judge 65 = .ok (.iconst 2, 1) := by decide +kernel
theorem dX4_judge_66 : decode cX4_judge 66 = .ok (.iadd, 1) := by decide +kernel
theorem dX4_judge_67 : decode cX4_judge 67 = .ok (.invokevirtual 70, 3) := by decide +kernel
theorem dX4_judge_70 : decode cX4_judge 70 = .ok (.istore 5, 2) := by decide +kernel
theorem dX4_judge_72 : decode cX4_judge 72 = .ok (.iload 4, 2) := by decide +kernel
theorem dX4_judge_74 : decode cX4_judge 74 = .ok (.ldc 55, 2) := by decide +kernel
theorem dX4_judge_76 : decode cX4_judge 76 = .ok (.if_icmp .eq 32, 3) := by decide +kernel
theorem dX4_judge_79 : decode cX4_judge 79 = .ok (.iload 4, 2) := by decide +kernel
theorem dX4_judge_81 : decode cX4_judge 81 = .ok (.aload_n 0, 1) := by decide +kernel
theorem dX4_judge_82 : decode cX4_judge 82 = .ok (.getfield 28, 3) := by decide +kernel
theorem dX4_judge_85 : decode cX4_judge 85 = .ok (.iload_n 1, 1) := by decide +kernel
theorem dX4_judge_86 : decode cX4_judge 86 = .ok (.iaload, 1) := by decide +kernel
theorem dX4_judge_87 : decode cX4_judge 87 = .ok (.if_icmp .gt 21, 3) := by decide +kernel
theorem dX4_judge_90 : decode cX4_judge 90 = .ok (.iload 5, 2) := by decide +kernel
theorem dX4_judge_92 : decode cX4_judge 92 = .ok (.ldc 55, 2) := by decide +kernel
theorem dX4_judge_94 : decode cX4_judge 94 = .ok (.if_icmp .eq 14, 3) := by decide +kernel
theorem dX4_judge_97 : decode cX4_judge 97 = .ok (.iload 5, 2) := by decide +kernel
theorem dX4_judge_99 : decode cX4_judge 99 = .ok (.aload_n 0, 1) := by decide +kernel
theorem dX4_judge_100 : decode cX4_judge 100 = .ok (.getfield 28, 3) := by decide +kernel
theorem dX4_judge_103 : decode cX4_judge 103 = .ok (.iload_n 1, 1) := by decide +kernel
theorem dX4_judge_104 : decode cX4_judge 104 = .ok (.iaload, 1) := by decide +kernel
theorem dX4_judge_105 : decode cX4_judge 105 = .ok (.if_icmp .le 5, 3) := by decide +kernel
theorem dX4_judge_108 : decode cX4_judge 108 = .ok (.iconst 0, 1) := by decide +kernel
theorem dX4_judge_109 : decode cX4_judge 109 = .ok (.ireturn, 1) := by decide +kernel
theorem dX4_judge_110 : decode cX4_judge 110 = .ok (.iload_n 3, 1) := by decide +kernel
theorem dX4_judge_111 : decode cX4_judge 111 = .ok (.aload_n 0, 1) := by decide +kernel
theorem dX4_judge_112 : decode cX4_judge 112 = .ok (.getfield 9, 3) := by decide +kernel
theorem dX4_judge_115 : decode cX4_judge 115 = .ok (.iload 4, 2) := by decide +kernel
theorem dX4_judge_117 : decode cX4_judge 117 = .ok (.iload 5, 2) := by decide +kernel
theorem dX4_judge_119 : decode cX4_judge 119 = .ok (.invokestatic 74, 3) := by decide +kernel
theorem dX4_judge_122 : decode cX4_judge 122 = .ok (.imul, 1) := by decide +kernel
theorem dX4_judge_123 : decode cX4_judge 123 = .ok (.if_icmp .le 7, 3) := by decide +kernel
theorem dX4_judge_126 : decode cX4_judge 126 = .ok (.iconst 3, 1) := by decide +kernel
theorem dX4_judge_127 : decode cX4_judge 127 = .ok (.goto 4, 3) := by decide +kernel
theorem dX4_judge_130 : decode cX4_judge 130 = .ok (.iconst 0, 1) := by decide +kernel
theorem dX4_judge_131 : decode cX4_judge 131 = .ok (.ireturn, 1) := by decide +kernel
abbrev rm_X4_judge : Room := { frames := 2, cells := 0, slots := 0, locals := 46 }
theorem hy_X4_judge : yX4_judge.cls ≠ "java/lang/invoke/MethodHandle" ∧ yX4_judge.cls ≠ "java/lang/invoke/VarHandle" ∧ (parseMethodDescriptor yX4_judge.desc).map (fun d => d.parameters.length) = some 2 := by decide +kernel
def w_X4_judge (a1 : Int32) (a2 : Int32) (σ : z_S) (Q : Int32 → z_S → Prop) : Prop :=
  w_X4_advance a1 a2 (a2 + (1 : Int32)) σ (fun r1 σ2 => if r1 = (-2000000000 : Int32) then (Q (1 : Int32) σ2) else (vp_in a1 10 ∧ if r1 ≤ (zg_i σ2 5 a1.toNatClampNeg) then (if a2 = 0 then (Q (0 : Int32) σ2) else (if a2 = (11 : Int32) then (Q (0 : Int32) σ2) else (if (10 : Int32) ≤ r1 then (w_X4_advance a1 (a2 - (1 : Int32)) a2 σ2 (fun r9 σ10 => w_X4_advance a1 (a2 + (1 : Int32)) (a2 + (2 : Int32)) σ10 (fun r11 σ12 => if r9 = (-2000000000 : Int32) then (Q (0 : Int32) σ12) else (vp_in a1 10 ∧ if (zg_i σ12 5 a1.toNatClampNeg) < r9 then (Q (0 : Int32) σ12) else (if r11 = (-2000000000 : Int32) then (Q (0 : Int32) σ12) else (vp_in a1 10 ∧ if r11 ≤ (zg_i σ12 5 a1.toNatClampNeg) then (if r1 ≤ ((zg_i σ12 1 1) * (if r9 < r11 then r11 else r9)) then (Q (0 : Int32) σ12) else (Q (3 : Int32) σ12)) else (Q (0 : Int32) σ12))))))) else (Q (0 : Int32) σ2)))) else (Q (2 : Int32) σ2)))
set_option maxHeartbeats 4000000 in
set_option maxRecDepth 100000 in
theorem c_X4_judge {l : Launch} {D : va_G} {cI cJ cM cS : ClassId} {n0 : Nat} {a1 : Int32} {a2 : Int32} {σ : z_S} {Q : Int32 → z_S → Prop} (hf : w_X4_judge a1 a2 σ Q) : z_ci l D cI cJ cM cS n0 yX4_judge cX4_judge 6 .int rm_X4_judge 0 0 [.ref (n0 + 1), .int a1, .int a2] σ Q := by
  refine z_ofi (by decide +kernel) (Nat.le_of_ble_eq_true rfl) (fun p e s m args below meth c hX hY => ?_)
  unfold w_X4_judge at hf
  refine zt_L (L' := [(0, .ref (n0 + 1)), (1, .int a1), (2, .int a2)]) rfl ?_
  refine zt_aload_n hX 0 dX4_judge_0 rfl rfl ?_
  refine zt_iload_n hX 1 dX4_judge_1 rfl rfl ?_
  refine zt_iload_n hX 2 dX4_judge_2 rfl rfl ?_
  refine zt_iload_n hX 2 dX4_judge_3 rfl rfl ?_
  refine zt_iconst hX dX4_judge_4 (v := (1 : Int32)) (by decide) ?_
  refine zt_iadd hX dX4_judge_5 ?_
  refine zt_calliV hX hY (av := [.int a1, .int a2, .int (a2 + (1 : Int32))]) (c_X4_advance hf) dX4_judge_6 rfl kw_375 kw_363 kw_364 kw_62 kw_365 ⟨rfl, rfl⟩ hy_X4_advance ⟨by decide, by decide⟩ ⟨by decide, by decide⟩ (Nat.le_of_ble_eq_true rfl) (by decide) (zE_1 _ _) rfl rfl (fun r1 σ2 hf => ?_)
  refine zt_istore_n (L' := [(3, .int r1), (0, .ref (n0 + 1)), (1, .int a1), (2, .int a2)]) hX dX4_judge_9 rfl (by decide) rfl ?_
  refine zt_iload_n hX 0 dX4_judge_10 rfl rfl ?_
  refine zt_ldc hX dX4_judge_11 kw_281 ?_
  refine zt_icmp_ne hX dX4_judge_13 (tgt := 18) (by decide) (fun c3 => ?_) (fun c3 => ?_)
  · replace hf := z_neg hf c3
    refine zt_iload_n hX 0 dX4_judge_18 rfl rfl ?_
    refine zt_aload_n hX 1 dX4_judge_19 rfl rfl ?_
    refine zt_get_X4 hX (by decide) (zE_1 _ _) 7 (by decide) kw_108 rfl rfl dX4_judge_20 ?_
    refine zt_iload_n hX 2 dX4_judge_23 rfl rfl ?_
    obtain ⟨h4, hf⟩ := hf
    refine zt_iaload hX dX4_judge_24 (by decide) rfl h4 ?_
    refine zt_icmp_le hX dX4_judge_25 (tgt := 30) (by decide) (fun c5 => ?_) (fun c5 => ?_)
    · replace hf := z_pos hf c5
      refine zt_iload_n hX 3 dX4_judge_30 rfl rfl ?_
      refine zt_if_eq hX dX4_judge_31 (tgt := 46) (by decide) (fun c6 => ?_) (fun c6 => ?_)
      · replace hf := z_pos hf c6
        refine zt_iconst hX dX4_judge_46 (v := (0 : Int32)) (by decide) ?_
        exact zt_iret hX hY dX4_judge_47 hf
      · replace hf := z_neg hf c6
        refine zt_iload_n hX 3 dX4_judge_34 rfl rfl ?_
        refine zt_bipush hX dX4_judge_35 (v := (11 : Int32)) (by decide) ?_
        refine zt_icmp_eq hX dX4_judge_37 (tgt := 46) (by decide) (fun c7 => ?_) (fun c7 => ?_)
        · replace hf := z_pos hf c7
          refine zt_iconst hX dX4_judge_46 (v := (0 : Int32)) (by decide) ?_
          exact zt_iret hX hY dX4_judge_47 hf
        · replace hf := z_neg hf c7
          refine zt_iload_n hX 0 dX4_judge_40 rfl rfl ?_
          refine zt_bipush hX dX4_judge_41 (v := (10 : Int32)) (by decide) ?_
          refine zt_icmp_ge hX dX4_judge_43 (tgt := 48) (by decide) (fun c8 => ?_) (fun c8 => ?_)
          · replace hf := z_pos hf c8
            refine zt_aload_n hX 1 dX4_judge_48 rfl rfl ?_
            refine zt_iload_n hX 2 dX4_judge_49 rfl rfl ?_
            refine zt_iload_n hX 3 dX4_judge_50 rfl rfl ?_
            refine zt_iconst hX dX4_judge_51 (v := (1 : Int32)) (by decide) ?_
            refine zt_isub hX dX4_judge_52 ?_
            refine zt_iload_n hX 3 dX4_judge_53 rfl rfl ?_
            refine zt_calliV hX hY (av := [.int a1, .int (a2 - (1 : Int32)), .int a2]) (c_X4_advance hf) dX4_judge_54 rfl kw_375 kw_363 kw_364 kw_62 kw_365 ⟨rfl, rfl⟩ hy_X4_advance ⟨by decide, by decide⟩ ⟨by decide, by decide⟩ (Nat.le_of_ble_eq_true rfl) (by decide) (zE_1 _ _) rfl rfl (fun r9 σ10 hf => ?_)
            refine zt_istore (L' := [(4, .int r9), (3, .int r1), (0, .ref (n0 + 1)), (1, .int a1), (2, .int a2)]) hX dX4_judge_57 (by decide) rfl ?_
            refine zt_aload_n hX 2 dX4_judge_59 rfl rfl ?_
            refine zt_iload_n hX 3 dX4_judge_60 rfl rfl ?_
            refine zt_iload_n hX 4 dX4_judge_61 rfl rfl ?_
            refine zt_iconst hX dX4_judge_62 (v := (1 : Int32)) (by decide) ?_
            refine zt_iadd hX dX4_judge_63 ?_
            refine zt_iload_n hX 4 dX4_judge_64 rfl rfl ?_
            refine zt_iconst hX dX4_judge_65 (v := (2 : Int32)) (by decide) ?_
            refine zt_iadd hX dX4_judge_66 ?_
            refine zt_calliV hX hY (av := [.int a1, .int (a2 + (1 : Int32)), .int (a2 + (2 : Int32))]) (c_X4_advance hf) dX4_judge_67 rfl kw_375 kw_363 kw_364 kw_62 kw_365 ⟨rfl, rfl⟩ hy_X4_advance ⟨by decide, by decide⟩ ⟨by decide, by decide⟩ (Nat.le_of_ble_eq_true rfl) (by decide) (zE_1 _ _) rfl rfl (fun r11 σ12 hf => ?_)
            refine zt_istore (L' := [(5, .int r11), (4, .int r9), (3, .int r1), (0, .ref (n0 + 1)), (1, .int a1), (2, .int a2)]) hX dX4_judge_70 (by decide) rfl ?_
            refine zt_iload hX 1 dX4_judge_72 rfl ?_
            refine zt_ldc hX dX4_judge_74 kw_281 ?_
            refine zt_icmp_eq hX dX4_judge_76 (tgt := 108) (by decide) (fun c13 => ?_) (fun c13 => ?_)
            · replace hf := z_pos hf c13
              refine zt_iconst hX dX4_judge_108 (v := (0 : Int32)) (by decide) ?_
              exact zt_iret hX hY dX4_judge_109 hf
            · replace hf := z_neg hf c13
              refine zt_iload hX 1 dX4_judge_79 rfl ?_
              refine zt_aload_n hX 3 dX4_judge_81 rfl rfl ?_
              refine zt_get_X4 hX (by decide) (zE_1 _ _) 7 (by decide) kw_108 rfl rfl dX4_judge_82 ?_
              refine zt_iload_n hX 4 dX4_judge_85 rfl rfl ?_
              obtain ⟨h14, hf⟩ := hf
              refine zt_iaload hX dX4_judge_86 (by decide) rfl h14 ?_
              refine zt_icmp_gt hX dX4_judge_87 (tgt := 108) (by decide) (fun c15 => ?_) (fun c15 => ?_)
              · replace hf := z_pos hf c15
                refine zt_iconst hX dX4_judge_108 (v := (0 : Int32)) (by decide) ?_
                exact zt_iret hX hY dX4_judge_109 hf
              · replace hf := z_neg hf c15
                refine zt_iload hX 0 dX4_judge_90 rfl ?_
                refine zt_ldc hX dX4_judge_92 kw_281 ?_
                refine zt_icmp_eq hX dX4_judge_94 (tgt := 108) (by decide) (fun c16 => ?_) (fun c16 => ?_)
                · replace hf := z_pos hf c16
                  refine zt_iconst hX dX4_judge_108 (v := (0 : Int32)) (by decide) ?_
                  exact zt_iret hX hY dX4_judge_109 hf
                · replace hf := z_neg hf c16
                  refine zt_iload hX 0 dX4_judge_97 rfl ?_
                  refine zt_aload_n hX 3 dX4_judge_99 rfl rfl ?_
                  refine zt_get_X4 hX (by decide) (zE_1 _ _) 7 (by decide) kw_108 rfl rfl dX4_judge_100 ?_
                  refine zt_iload_n hX 4 dX4_judge_103 rfl rfl ?_
                  obtain ⟨h17, hf⟩ := hf
                  refine zt_iaload hX dX4_judge_104 (by decide) rfl h17 ?_
                  refine zt_icmp_le hX dX4_judge_105 (tgt := 110) (by decide) (fun c18 => ?_) (fun c18 => ?_)
                  · replace hf := z_pos hf c18
                    refine zt_iload_n hX 2 dX4_judge_110 rfl rfl ?_
                    refine zt_aload_n hX 3 dX4_judge_111 rfl rfl ?_
                    refine zt_get_X4 hX (by decide) (zE_1 _ _) 1 (by decide) kw_92 rfl rfl dX4_judge_112 ?_
                    refine zt_iload hX 1 dX4_judge_115 rfl ?_
                    refine zt_iload hX 0 dX4_judge_117 rfl ?_
                    refine zt_max hX dX4_judge_119 kw_376 (by decide) (Nat.le_of_ble_eq_true rfl) (by decide) (by decide) ?_
                    refine zt_imul hX dX4_judge_122 ?_
                    refine zt_icmp_le hX dX4_judge_123 (tgt := 130) (by decide) (fun c19 => ?_) (fun c19 => ?_)
                    · replace hf := z_pos hf c19
                      refine zt_iconst hX dX4_judge_130 (v := (0 : Int32)) (by decide) ?_
                      exact zt_iret hX hY dX4_judge_131 hf
                    · replace hf := z_neg hf c19
                      refine zt_iconst hX dX4_judge_126 (v := (3 : Int32)) (by decide) ?_
                      refine zt_goto hX dX4_judge_127 (tgt := 131) (by decide) ?_
                      exact zt_iret hX hY dX4_judge_131 hf
                  · replace hf := z_neg hf c18
                    refine zt_iconst hX dX4_judge_108 (v := (0 : Int32)) (by decide) ?_
                    exact zt_iret hX hY dX4_judge_109 hf
          · replace hf := z_neg hf c8
            refine zt_iconst hX dX4_judge_46 (v := (0 : Int32)) (by decide) ?_
            exact zt_iret hX hY dX4_judge_47 hf
    · replace hf := z_neg hf c5
      refine zt_iconst hX dX4_judge_28 (v := (2 : Int32)) (by decide) ?_
      exact zt_iret hX hY dX4_judge_29 hf
  · replace hf := z_pos hf c3
    refine zt_iconst hX dX4_judge_16 (v := (1 : Int32)) (by decide) ?_
    exact zt_iret hX hY dX4_judge_17 hf

theorem dX1_measure_0 : decode cX1_measure 0 = .ok (.iconst 0, 1) := by decide +kernel
theorem dX1_measure_1 : decode cX1_measure 1 = .ok (.istore_n 3, 1) := by decide +kernel
theorem dX1_measure_2 : decode cX1_measure 2 = .ok (.iload_n 3, 1) := by decide +kernel
theorem dX1_measure_3 : decode cX1_measure 3 = .ok (.bipush 12, 2) := by decide +kernel
theorem dX1_measure_5 : decode cX1_measure 5 = .ok (.if_icmp .ge 63, 3) := by decide +kernel
theorem dX1_measure_8 : decode cX1_measure 8 = .ok (.aload_n 0, 1) := by decide +kernel
theorem dX1_measure_9 : decode cX1_measure 9 = .ok (.getfield 19, 3) := by decide +kernel
theorem dX1_measure_12 : decode cX1_measure 12 = .ok (.iload_n 3, 1) := by decide +kernel
theorem dX1_measure_13 : decode cX1_measure 13 = .ok (.aload_n 1, 1) := by decide +kernel
theorem dX1_measure_14 : decode cX1_measure 14 = .ok (.iload_n 2, 1) := by decide +kernel
theorem dX1_measure_15 : decode cX1_measure 15 = .ok (.iload_n 3, 1) := by decide +kernel
theorem dX1_measure_16 : decode cX1_measure 16 = .ok (.invokevirtual 36, 3) := by decide +kernel
theorem dX1_measure_19 : decode cX1_measure 19 = .ok (.iastore, 1) := by decide +kernel
theorem dX1_measure_20 : decode cX1_measure 20 = .ok (.aload_n 0, 1) := by decide +kernel
theorem dX1_measure_21 : decode cX1_measure 21 = .ok (.getfield 19, 3) := by decide +kernel
theorem dX1_measure_24 : decode cX1_measure 24 = .ok (.iload_n 3, 1) := by decide +kernel
theorem dX1_measure_25 : decode cX1_measure 25 = .ok (.iaload, 1) := by decide +kernel
theorem dX1_measure_26 : decode cX1_measure 26 = .ok (.ifCond .ne 36, 3) := by decide +kernel
theorem dX1_measure_29 : decode cX1_measure 29 = .ok (.aload_n 0, 1) := by decide +kernel
theorem dX1_measure_30 : decode cX1_measure 30 = .ok (.getfield 11, 3) := by decide +kernel
theorem dX1_measure_33 : decode cX1_measure 33 = .ok (.iload_n 2, 1) := by decide +kernel
theorem dX1_measure_34 : decode cX1_measure 34 = .ok (.aaload, 1) := by decide +kernel
theorem dX1_measure_35 : decode cX1_measure 35 = .ok (.iload_n 3, 1) := by decide +kernel
theorem dX1_measure_36 : decode cX1_measure 36 = .ok (.aload_n 1, 1) := by decide +kernel
theorem dX1_measure_37 : decode cX1_measure 37 = .ok (.iload_n 2, 1) := by decide +kernel
theorem dX1_measure_38 : decode cX1_measure 38 = .ok (.iload_n 3, 1) := by decide +kernel
theorem dX1_measure_39 : decode cX1_measure 39 = .ok (.iload_n 3, 1) := by decide +kernel
theorem dX1_measure_40 : decode cX1_measure 40 = .ok (.iconst 1, 1) := by decide +kernel
theorem dX1_measure_41 : decode cX1_measure 41 = .ok (.iadd, 1) := by decide +kernel
theorem dX1_measure_42 : decode cX1_measure 42 = .ok (.invokevirtual 40, 3) := by decide +kernel
theorem dX1_measure_45 : decode cX1_measure 45 = .ok (.aload_n 1, 1) := by decide +kernel
theorem dX1_measure_46 : decode cX1_measure 46 = .ok (.getfield 44, 3) := by decide +kernel
theorem dX1_measure_49 : decode cX1_measure 49 = .ok (.iload_n 2, 1) := by decide +kernel
theorem dX1_measure_50 : decode cX1_measure 50 = .ok (.iaload, 1) := by decide +kernel
theorem dX1_measure_51 : decode cX1_measure 51 = .ok (.imul, 1) := by decide +kernel
theorem dX1_measure_52 : decode cX1_measure 52 = .ok (.iastore, 1) := by decide +kernel
theorem dX1_measure_53 : decode cX1_measure 53 = .ok (.aload_n 0, 1) := by decide +kernel
theorem dX1_measure_54 : decode cX1_measure 54 = .ok (.getfield 16, 3) := by decide +kernel
theorem dX1_measure_57 : decode cX1_measure 57 = .ok (.iload_n 2, 1) := by decide +kernel
theorem dX1_measure_58 : decode cX1_measure 58 = .ok (.aaload, 1) := by decide +kernel
theorem dX1_measure_59 : decode cX1_measure 59 = .ok (.iload_n 3, 1) := by decide +kernel
theorem dX1_measure_60 : decode cX1_measure 60 = .ok (.iconst 0, 1) := by decide +kernel
theorem dX1_measure_61 : decode cX1_measure 61 = .ok (.iastore, 1) := by decide +kernel
theorem dX1_measure_62 : decode cX1_measure 62 = .ok (.iinc 3 1, 3) := by decide +kernel
theorem dX1_measure_65 : decode cX1_measure 65 = .ok (.goto (-63), 3) := by decide +kernel
theorem dX1_measure_68 : decode cX1_measure 68 = .ok (.iconst 0, 1) := by decide +kernel
theorem dX1_measure_69 : decode cX1_measure 69 = .ok (.istore_n 3, 1) := by decide +kernel
theorem dX1_measure_70 : decode cX1_measure 70 = .ok (.iconst 0, 1) := by decide +kernel
theorem dX1_measure_71 : decode cX1_measure 71 = .ok (.istore 4, 2) := by decide +kernel
theorem dX1_measure_73 : decode cX1_measure 73 = .ok (.iload 4, 2) := by decide +kernel
theorem dX1_measure_75 : decode cX1_measure 75 = .ok (.bipush 12, 2) := by decide +kernel
theorem dX1_measure_77 : decode cX1_measure 77 = .ok (.if_icmp .ge 55, 3) := by decide +kernel
theorem dX1_measure_80 : decode cX1_measure 80 = .ok (.aload_n 0, 1) := by decide +kernel
theorem dX1_measure_81 : decode cX1_measure 81 = .ok (.getfield 19, 3) := by decide +kernel
theorem dX1_measure_84 : decode cX1_measure 84 = .ok (.iload 4, 2) := by decide +kernel
theorem dX1_measure_86 : decode cX1_measure 86 = .ok (.iaload, 1) := by decide +kernel
theorem dX1_measure_87 : decode cX1_measure 87 = .ok (.ifCond .ne 11, 3) := by decide +kernel
theorem dX1_measure_90 : decode cX1_measure 90 = .ok (.iload 4, 2) := by decide +kernel
theorem dX1_measure_92 : decode cX1_measure 92 = .ok (.iconst 1, 1) := by decide +kernel
theorem dX1_measure_93 : decode cX1_measure 93 = .ok (.iadd, 1) := by decide +kernel
theorem dX1_measure_94 : decode cX1_measure 94 = .ok (.istore_n 3, 1) := by decide +kernel
theorem dX1_measure_95 : decode cX1_measure 95 = .ok (.goto 31, 3) := by decide +kernel
theorem dX1_measure_98 : decode cX1_measure 98 = .ok (.iload 4, 2) := by decide +kernel
theorem dX1_measure_100 : decode cX1_measure 100 = .ok (.bipush 11, 2) := by decide +kernel
theorem dX1_measure_102 : decode cX1_measure 102 = .ok (.if_icmp .eq 15, 3) := by decide +kernel
theorem dX1_measure_105 : decode cX1_measure 105 = .ok (.aload_n 0, 1) := by decide +kernel
theorem dX1_measure_106 : decode cX1_measure 106 = .ok (.getfield 19, 3) := by decide +kernel
theorem dX1_measure_109 : decode cX1_measure 109 = .ok (.iload 4, 2) := by decide +kernel
theorem dX1_measure_111 : decode cX1_measure 111 = .ok (.iconst 1, 1) := by decide +kernel
theorem dX1_measure_112 : decode cX1_measure 112 = .ok (.iadd, 1) := by decide +kernel
theorem dX1_measure_113 : decode cX1_measure 113 = .ok (.iaload, 1) := by decide +kernel
theorem dX1_measure_114 : decode cX1_measure 114 = .ok (.ifCond .ne 12, 3) := by decide +kernel
theorem dX1_measure_117 : decode cX1_measure 117 = .ok (.aload_n 0, 1) := by decide +kernel
theorem dX1_measure_118 : decode cX1_measure 118 = .ok (.aload_n 1, 1) := by decide +kernel
theorem dX1_measure_119 : decode cX1_measure 119 = .ok (.iload_n 2, 1) := by decide +kernel
theorem dX1_measure_120 : decode cX1_measure 120 = .ok (.iload_n 3, 1) := by decide +kernel
theorem dX1_measure_121 : decode cX1_measure 121 = .ok (.iload 4, 2) := by decide +kernel
theorem dX1_measure_123 : decode cX1_measure 123 = .ok (.invokevirtual 47, 3) := by decide +kernel
theorem dX1_measure_126 : decode cX1_measure 126 = .ok (.iinc 4 1, 3) := by decide +kernel
theorem dX1_measure_129 : decode cX1_measure 129 = .ok (.goto (-56), 3) := by decide +kernel
theorem dX1_measure_132 : decode cX1_measure 132 = .ok (.return_, 1) := by decide +kernel
abbrev rm_X1_measure : Room := { frames := 3, cells := 0, slots := 0, locals := 72 }
theorem hy_X1_measure : yX1_measure.cls ≠ "java/lang/invoke/MethodHandle" ∧ yX1_measure.cls ≠ "java/lang/invoke/VarHandle" ∧ (parseMethodDescriptor yX1_measure.desc).map (fun d => d.parameters.length) = some 2 := by decide +kernel
def w_X1_measure_126 (k73 : Int32 → Int32 → Int32 → z_S → Prop) (Q : z_S → Prop) (x2 : Int32) (x3 : Int32) (x4 : Int32) (σ : z_S) : Prop :=
  ∀ y8 : Int32, y8 = (x4 + (1 : Int32)) → k73 x2 x3 y8 σ
def w_X1_measure_117 (k73 : Int32 → Int32 → Int32 → z_S → Prop) (Q : z_S → Prop) (x2 : Int32) (x3 : Int32) (x4 : Int32) (σ : z_S) : Prop :=
  w_X1_estimate x2 x3 x4 σ (fun σ7 => w_X1_measure_126 k73 Q x2 x3 x4 σ7)
def wb_X1_measure_73  (Q : z_S → Prop) (k73 : Int32 → Int32 → Int32 → z_S → Prop) (x2 : Int32) (x3 : Int32) (x4 : Int32) (σ : z_S) : Prop :=
  if (12 : Int32) ≤ x4 then (Q σ) else (vp_in x4 12 ∧ if (zg_i σ 52 x4.toNatClampNeg) = 0 then (∀ y11 : Int32, y11 = (x4 + (1 : Int32)) → w_X1_measure_126 k73 Q x2 y11 x4 σ) else (if x4 = (11 : Int32) then (w_X1_measure_117 k73 Q x2 x3 x4 σ) else (vp_in (x4 + (1 : Int32)) 12 ∧ if (zg_i σ 52 (x4 + (1 : Int32)).toNatClampNeg) = 0 then (w_X1_measure_117 k73 Q x2 x3 x4 σ) else (w_X1_measure_126 k73 Q x2 x3 x4 σ))))
def w_X1_measure_73  (Q : z_S → Prop) : Nat → Int32 → Int32 → Int32 → z_S → Prop
  | 0 => fun _ _ _ _ => False
  | n + 1 => wb_X1_measure_73  Q (w_X1_measure_73  Q n)
def w_X1_measure_62 (k2 : Int32 → Int32 → z_S → Prop) (Q : z_S → Prop) (x2 : Int32) (x3 : Int32) (σ : z_S) : Prop :=
  ∀ y18 : Int32, y18 = (x3 + (1 : Int32)) → k2 x2 y18 σ
def wb_X1_measure_2  (Q : z_S → Prop) (k2 : Int32 → Int32 → z_S → Prop) (x2 : Int32) (x3 : Int32) (σ : z_S) : Prop :=
  if (12 : Int32) ≤ x3 then (w_X1_measure_73 Q 400 x2 (0 : Int32) (0 : Int32) σ) else (w_X4_judge x2 x3 σ (fun r12 σ13 => vp_in x3 12 ∧ ∀ σ15 : z_S, σ15 = zs_i σ13 52 x3.toNatClampNeg r12 → vp_in x3 12 ∧ if (zg_i σ15 52 x3.toNatClampNeg) = 0 then (vp_in x2 10 ∧ w_X4_advance x2 x3 (x3 + (1 : Int32)) σ15 (fun r20 σ21 => vp_in x2 10 ∧ vp_in x3 12 ∧ ∀ σ24 : z_S, σ24 = zs_i σ21 (31 + x2.toNatClampNeg) x3.toNatClampNeg (r20 * (zg_i σ21 3 x2.toNatClampNeg)) → vp_in x2 10 ∧ vp_in x3 12 ∧ ∀ σ27 : z_S, σ27 = zs_i σ24 (42 + x2.toNatClampNeg) x3.toNatClampNeg (0 : Int32) → w_X1_measure_62 k2 Q x2 x3 σ27)) else (w_X1_measure_62 k2 Q x2 x3 σ15)))
def w_X1_measure_2  (Q : z_S → Prop) : Nat → Int32 → Int32 → z_S → Prop
  | 0 => fun _ _ _ => False
  | n + 1 => wb_X1_measure_2  Q (w_X1_measure_2  Q n)
def w_X1_measure (a2 : Int32) (σ : z_S) (Q : z_S → Prop) : Prop :=
  w_X1_measure_2 Q 400 a2 (0 : Int32) σ
set_option maxHeartbeats 4000000 in
set_option maxRecDepth 100000 in
theorem t_X1_measure_126 {l : Launch} {D : va_G} {cI cJ cM cS : ClassId} {n0 : Nat} {p : Program} {e : Env} {s : State} {m : MethodId} {args : Array Value} {below : List Frame} {meth : Method} {c : Code} {k73 : Int32 → Int32 → Int32 → z_S → Prop} {Q : z_S → Prop} (hX : z_X D cI cJ cM cS p s m args c cX1_measure 5 yX1_measure.cls) (hY : z_Y s meth none) (hk73 : ∀ (x2 : Int32) (x3 : Int32) (x4 : Int32) (σ : z_S), k73 x2 x3 x4 σ → z_t D cI cJ cM cS n0 p l e rm_X1_measure s m args below meth c 5 (MQ below (va_Qv Q (fun u t => z_Bq D cI cJ cM cS n0 u t) (z_Ab n0)) args s 0 0 (z_Ab n0)) 0 0 73 [(0, .ref (n0 + 29)), (1, .ref (n0 + 1)), (2, .int x2), (3, .int x3), (4, .int x4)] [] σ) (x2 : Int32) (x3 : Int32) (x4 : Int32) (σ : z_S) (hf : w_X1_measure_126 k73 Q x2 x3 x4 σ) : z_t D cI cJ cM cS n0 p l e rm_X1_measure s m args below meth c 5 (MQ below (va_Qv Q (fun u t => z_Bq D cI cJ cM cS n0 u t) (z_Ab n0)) args s 0 0 (z_Ab n0)) 0 0 126 [(0, .ref (n0 + 29)), (1, .ref (n0 + 1)), (2, .int x2), (3, .int x3), (4, .int x4)] [] σ := by
  unfold w_X1_measure_126 at hf
  obtain ⟨y8, e8⟩ : ∃ y : Int32, y = (x4 + (1 : Int32)) := ⟨_, rfl⟩
  replace hf := hf y8 e8
  refine zt_iinc (L' := [(4, .int y8), (0, .ref (n0 + 29)), (1, .ref (n0 + 1)), (2, .int x2), (3, .int x3)]) hX 4 dX1_measure_126 rfl (v := y8) (by rw [e8]; rfl) (by decide) rfl ?_
  refine zt_goto hX dX1_measure_129 (tgt := 73) (by decide) ?_
  exact zt_sub [1, 2, 3, 4, 0] rfl (hk73 _ _ _ _ hf)
set_option maxHeartbeats 4000000 in
set_option maxRecDepth 100000 in
theorem t_X1_measure_117 {l : Launch} {D : va_G} {cI cJ cM cS : ClassId} {n0 : Nat} {p : Program} {e : Env} {s : State} {m : MethodId} {args : Array Value} {below : List Frame} {meth : Method} {c : Code} {k73 : Int32 → Int32 → Int32 → z_S → Prop} {Q : z_S → Prop} (hX : z_X D cI cJ cM cS p s m args c cX1_measure 5 yX1_measure.cls) (hY : z_Y s meth none) (hk73 : ∀ (x2 : Int32) (x3 : Int32) (x4 : Int32) (σ : z_S), k73 x2 x3 x4 σ → z_t D cI cJ cM cS n0 p l e rm_X1_measure s m args below meth c 5 (MQ below (va_Qv Q (fun u t => z_Bq D cI cJ cM cS n0 u t) (z_Ab n0)) args s 0 0 (z_Ab n0)) 0 0 73 [(0, .ref (n0 + 29)), (1, .ref (n0 + 1)), (2, .int x2), (3, .int x3), (4, .int x4)] [] σ) (x2 : Int32) (x3 : Int32) (x4 : Int32) (σ : z_S) (hf : w_X1_measure_117 k73 Q x2 x3 x4 σ) : z_t D cI cJ cM cS n0 p l e rm_X1_measure s m args below meth c 5 (MQ below (va_Qv Q (fun u t => z_Bq D cI cJ cM cS n0 u t) (z_Ab n0)) args s 0 0 (z_Ab n0)) 0 0 117 [(0, .ref (n0 + 29)), (1, .ref (n0 + 1)), (2, .int x2), (3, .int x3), (4, .int x4)] [] σ := by
  unfold w_X1_measure_117 at hf
  refine zt_aload_n hX 0 dX1_measure_117 rfl rfl ?_
  refine zt_aload_n hX 1 dX1_measure_118 rfl rfl ?_
  refine zt_iload_n hX 2 dX1_measure_119 rfl rfl ?_
  refine zt_iload_n hX 3 dX1_measure_120 rfl rfl ?_
  refine zt_iload hX 4 dX1_measure_121 rfl ?_
  refine zt_callvV hX hY (av := [.ref (n0 + 1), .int x2, .int x3, .int x4]) (c_X1_estimate hf) dX1_measure_123 rfl kw_389 kw_391 kw_1 kw_64 kw_392 ⟨rfl, rfl⟩ hy_X1_estimate ⟨by decide, by decide⟩ ⟨by decide, by decide⟩ (Nat.le_of_ble_eq_true rfl) (by decide) (zE_29 _ _) rfl rfl (fun σ7 hf => ?_)
  exact zt_sub [0, 1, 2, 3, 4] rfl (t_X1_measure_126 hX hY hk73 _ _ _ _ hf)
set_option maxHeartbeats 4000000 in
set_option maxRecDepth 100000 in
theorem t_X1_measure_73 {l : Launch} {D : va_G} {cI cJ cM cS : ClassId} {n0 : Nat} {p : Program} {e : Env} {s : State} {m : MethodId} {args : Array Value} {below : List Frame} {meth : Method} {c : Code}  {Q : z_S → Prop} (hX : z_X D cI cJ cM cS p s m args c cX1_measure 5 yX1_measure.cls) (hY : z_Y s meth none)  : ∀ (n : Nat) (x2 : Int32) (x3 : Int32) (x4 : Int32) (σ : z_S), w_X1_measure_73  Q n x2 x3 x4 σ → z_t D cI cJ cM cS n0 p l e rm_X1_measure s m args below meth c 5 (MQ below (va_Qv Q (fun u t => z_Bq D cI cJ cM cS n0 u t) (z_Ab n0)) args s 0 0 (z_Ab n0)) 0 0 73 [(0, .ref (n0 + 29)), (1, .ref (n0 + 1)), (2, .int x2), (3, .int x3), (4, .int x4)] [] σ := by
  intro n
  induction n with
  | zero => intro _ _ _ _ hf; exact hf.elim
  | succ n ih73 =>
    intro x2 x3 x4 σ hf
    have hf : wb_X1_measure_73  Q (w_X1_measure_73  Q n) x2 x3 x4 σ := hf
    unfold wb_X1_measure_73 at hf
    refine zt_iload hX 4 dX1_measure_73 rfl ?_
    refine zt_bipush hX dX1_measure_75 (v := (12 : Int32)) (by decide) ?_
    refine zt_icmp_ge hX dX1_measure_77 (tgt := 132) (by decide) (fun c2 => ?_) (fun c2 => ?_)
    · replace hf := z_pos hf c2
      exact zt_vret hX hY dX1_measure_132 hf
    · replace hf := z_neg hf c2
      refine zt_aload_n hX 0 dX1_measure_80 rfl rfl ?_
      refine zt_get_X1 hX (by decide) (zE_29 _ _) 2 (by decide) kw_171 rfl rfl dX1_measure_81 ?_
      refine zt_iload hX 4 dX1_measure_84 rfl ?_
      obtain ⟨h3, hf⟩ := hf
      refine zt_iaload hX dX1_measure_86 (by decide) rfl h3 ?_
      refine zt_if_ne hX dX1_measure_87 (tgt := 98) (by decide) (fun c4 => ?_) (fun c4 => ?_)
      · replace hf := z_neg hf c4
        refine zt_iload hX 4 dX1_measure_98 rfl ?_
        refine zt_bipush hX dX1_measure_100 (v := (11 : Int32)) (by decide) ?_
        refine zt_icmp_eq hX dX1_measure_102 (tgt := 117) (by decide) (fun c5 => ?_) (fun c5 => ?_)
        · replace hf := z_pos hf c5
          exact zt_sub [0, 1, 2, 3, 4] rfl (t_X1_measure_117 hX hY ih73 _ _ _ _ hf)
        · replace hf := z_neg hf c5
          refine zt_aload_n hX 0 dX1_measure_105 rfl rfl ?_
          refine zt_get_X1 hX (by decide) (zE_29 _ _) 2 (by decide) kw_171 rfl rfl dX1_measure_106 ?_
          refine zt_iload hX 4 dX1_measure_109 rfl ?_
          refine zt_iconst hX dX1_measure_111 (v := (1 : Int32)) (by decide) ?_
          refine zt_iadd hX dX1_measure_112 ?_
          obtain ⟨h9, hf⟩ := hf
          refine zt_iaload hX dX1_measure_113 (by decide) rfl h9 ?_
          refine zt_if_ne hX dX1_measure_114 (tgt := 126) (by decide) (fun c10 => ?_) (fun c10 => ?_)
          · replace hf := z_neg hf c10
            exact zt_sub [0, 1, 2, 3, 4] rfl (t_X1_measure_126 hX hY ih73 _ _ _ _ hf)
          · replace hf := z_pos hf c10
            exact zt_sub [0, 1, 2, 3, 4] rfl (t_X1_measure_117 hX hY ih73 _ _ _ _ hf)
      · replace hf := z_pos hf c4
        refine zt_iload hX 4 dX1_measure_90 rfl ?_
        refine zt_iconst hX dX1_measure_92 (v := (1 : Int32)) (by decide) ?_
        refine zt_iadd hX dX1_measure_93 ?_
        refine zt_nmi (fun y11 e11 => ?_)
        replace hf := hf y11 e11
        refine zt_istore_n (L' := [(3, .int y11), (0, .ref (n0 + 29)), (1, .ref (n0 + 1)), (2, .int x2), (4, .int x4)]) hX dX1_measure_94 rfl (by decide) rfl ?_
        refine zt_goto hX dX1_measure_95 (tgt := 126) (by decide) ?_
        exact zt_sub [1, 2, 3, 0, 4] rfl (t_X1_measure_126 hX hY ih73 _ _ _ _ hf)
set_option maxHeartbeats 4000000 in
set_option maxRecDepth 100000 in
theorem t_X1_measure_62 {l : Launch} {D : va_G} {cI cJ cM cS : ClassId} {n0 : Nat} {p : Program} {e : Env} {s : State} {m : MethodId} {args : Array Value} {below : List Frame} {meth : Method} {c : Code} {k2 : Int32 → Int32 → z_S → Prop} {Q : z_S → Prop} (hX : z_X D cI cJ cM cS p s m args c cX1_measure 5 yX1_measure.cls) (hY : z_Y s meth none) (hk2 : ∀ (x2 : Int32) (x3 : Int32) (σ : z_S), k2 x2 x3 σ → z_t D cI cJ cM cS n0 p l e rm_X1_measure s m args below meth c 5 (MQ below (va_Qv Q (fun u t => z_Bq D cI cJ cM cS n0 u t) (z_Ab n0)) args s 0 0 (z_Ab n0)) 0 0 2 [(0, .ref (n0 + 29)), (1, .ref (n0 + 1)), (2, .int x2), (3, .int x3)] [] σ) (x2 : Int32) (x3 : Int32) (σ : z_S) (hf : w_X1_measure_62 k2 Q x2 x3 σ) : z_t D cI cJ cM cS n0 p l e rm_X1_measure s m args below meth c 5 (MQ below (va_Qv Q (fun u t => z_Bq D cI cJ cM cS n0 u t) (z_Ab n0)) args s 0 0 (z_Ab n0)) 0 0 62 [(0, .ref (n0 + 29)), (1, .ref (n0 + 1)), (2, .int x2), (3, .int x3)] [] σ := by
  unfold w_X1_measure_62 at hf
  obtain ⟨y18, e18⟩ : ∃ y : Int32, y = (x3 + (1 : Int32)) := ⟨_, rfl⟩
  replace hf := hf y18 e18
  refine zt_iinc (L' := [(3, .int y18), (0, .ref (n0 + 29)), (1, .ref (n0 + 1)), (2, .int x2)]) hX 3 dX1_measure_62 rfl (v := y18) (by rw [e18]; rfl) (by decide) rfl ?_
  refine zt_goto hX dX1_measure_65 (tgt := 2) (by decide) ?_
  exact zt_sub [1, 2, 3, 0] rfl (hk2 _ _ _ hf)
set_option maxHeartbeats 4000000 in
set_option maxRecDepth 100000 in
theorem t_X1_measure_2 {l : Launch} {D : va_G} {cI cJ cM cS : ClassId} {n0 : Nat} {p : Program} {e : Env} {s : State} {m : MethodId} {args : Array Value} {below : List Frame} {meth : Method} {c : Code}  {Q : z_S → Prop} (hX : z_X D cI cJ cM cS p s m args c cX1_measure 5 yX1_measure.cls) (hY : z_Y s meth none)  : ∀ (n : Nat) (x2 : Int32) (x3 : Int32) (σ : z_S), w_X1_measure_2  Q n x2 x3 σ → z_t D cI cJ cM cS n0 p l e rm_X1_measure s m args below meth c 5 (MQ below (va_Qv Q (fun u t => z_Bq D cI cJ cM cS n0 u t) (z_Ab n0)) args s 0 0 (z_Ab n0)) 0 0 2 [(0, .ref (n0 + 29)), (1, .ref (n0 + 1)), (2, .int x2), (3, .int x3)] [] σ := by
  intro n
  induction n with
  | zero => intro _ _ _ hf; exact hf.elim
  | succ n ih2 =>
    intro x2 x3 σ hf
    have hf : wb_X1_measure_2  Q (w_X1_measure_2  Q n) x2 x3 σ := hf
    unfold wb_X1_measure_2 at hf
    refine zt_iload_n hX 3 dX1_measure_2 rfl rfl ?_
    refine zt_bipush hX dX1_measure_3 (v := (12 : Int32)) (by decide) ?_
    refine zt_icmp_ge hX dX1_measure_5 (tgt := 68) (by decide) (fun c1 => ?_) (fun c1 => ?_)
    · replace hf := z_pos hf c1
      refine zt_iconst hX dX1_measure_68 (v := (0 : Int32)) (by decide) ?_
      refine zt_istore_n (L' := [(3, .int (0 : Int32)), (0, .ref (n0 + 29)), (1, .ref (n0 + 1)), (2, .int x2)]) hX dX1_measure_69 rfl (by decide) rfl ?_
      refine zt_iconst hX dX1_measure_70 (v := (0 : Int32)) (by decide) ?_
      refine zt_istore (L' := [(4, .int (0 : Int32)), (3, .int (0 : Int32)), (0, .ref (n0 + 29)), (1, .ref (n0 + 1)), (2, .int x2)]) hX dX1_measure_71 (by decide) rfl ?_
      exact zt_sub [2, 3, 4, 1, 0] rfl (t_X1_measure_73 hX hY 400 _ _ _ _ hf)
    · replace hf := z_neg hf c1
      refine zt_aload_n hX 0 dX1_measure_8 rfl rfl ?_
      refine zt_get_X1 hX (by decide) (zE_29 _ _) 2 (by decide) kw_171 rfl rfl dX1_measure_9 ?_
      refine zt_iload_n hX 3 dX1_measure_12 rfl rfl ?_
      refine zt_aload_n hX 1 dX1_measure_13 rfl rfl ?_
      refine zt_iload_n hX 2 dX1_measure_14 rfl rfl ?_
      refine zt_iload_n hX 3 dX1_measure_15 rfl rfl ?_
      refine zt_calliV hX hY (av := [.int x2, .int x3]) (c_X4_judge hf) dX1_measure_16 rfl kw_387 kw_372 kw_373 kw_62 kw_374 ⟨rfl, rfl⟩ hy_X4_judge ⟨by decide, by decide⟩ ⟨by decide, by decide⟩ (Nat.le_of_ble_eq_true rfl) (by decide) (zE_1 _ _) rfl rfl (fun r12 σ13 hf => ?_)
      obtain ⟨h14, hf⟩ := hf
      refine zt_iastore hX dX1_measure_19 (by decide) rfl h14 ?_
      refine zt_nms (fun σ15 d15 => ?_)
      replace hf := hf σ15 d15
      refine zt_aload_n hX 0 dX1_measure_20 rfl rfl ?_
      refine zt_get_X1 hX (by decide) (zE_29 _ _) 2 (by decide) kw_171 rfl rfl dX1_measure_21 ?_
      refine zt_iload_n hX 3 dX1_measure_24 rfl rfl ?_
      obtain ⟨h16, hf⟩ := hf
      refine zt_iaload hX dX1_measure_25 (by decide) rfl h16 ?_
      refine zt_if_ne hX dX1_measure_26 (tgt := 62) (by decide) (fun c17 => ?_) (fun c17 => ?_)
      · replace hf := z_neg hf c17
        exact zt_sub [0, 1, 2, 3] rfl (t_X1_measure_62 hX hY ih2 _ _ _ hf)
      · replace hf := z_pos hf c17
        refine zt_aload_n hX 0 dX1_measure_29 rfl rfl ?_
        refine zt_get_X1 hX (by decide) (zE_29 _ _) 0 (by decide) kw_166 rfl rfl dX1_measure_30 ?_
        refine zt_iload_n hX 2 dX1_measure_33 rfl rfl ?_
        obtain ⟨h19, hf⟩ := hf
        refine zt_aaloadM hX dX1_measure_34 (by decide) rfl (k1 := 31) rfl h19 ?_
        refine zt_iload_n hX 3 dX1_measure_35 rfl rfl ?_
        refine zt_aload_n hX 1 dX1_measure_36 rfl rfl ?_
        refine zt_iload_n hX 2 dX1_measure_37 rfl rfl ?_
        refine zt_iload_n hX 3 dX1_measure_38 rfl rfl ?_
        refine zt_iload_n hX 3 dX1_measure_39 rfl rfl ?_
        refine zt_iconst hX dX1_measure_40 (v := (1 : Int32)) (by decide) ?_
        refine zt_iadd hX dX1_measure_41 ?_
        refine zt_calliV hX hY (av := [.int x2, .int x3, .int (x3 + (1 : Int32))]) (c_X4_advance hf) dX1_measure_42 rfl kw_388 kw_363 kw_364 kw_62 kw_365 ⟨rfl, rfl⟩ hy_X4_advance ⟨by decide, by decide⟩ ⟨by decide, by decide⟩ (Nat.le_of_ble_eq_true rfl) (by decide) (zE_1 _ _) rfl rfl (fun r20 σ21 hf => ?_)
        refine zt_aload_n hX 1 dX1_measure_45 rfl rfl ?_
        refine zt_get_X4 hX (by decide) (zE_1 _ _) 5 (by decide) kw_104 rfl rfl dX1_measure_46 ?_
        refine zt_iload_n hX 2 dX1_measure_49 rfl rfl ?_
        obtain ⟨h22, hf⟩ := hf
        refine zt_iaload hX dX1_measure_50 (by decide) rfl h22 ?_
        refine zt_imul hX dX1_measure_51 ?_
        obtain ⟨h23, hf⟩ := hf
        refine zt_iastore hX dX1_measure_52 (z_row31 (z_lt h19)) (z_sh31 (z_lt h19)) h23 ?_
        refine zt_nms (fun σ24 d24 => ?_)
        replace hf := hf σ24 d24
        refine zt_aload_n hX 0 dX1_measure_53 rfl rfl ?_
        refine zt_get_X1 hX (by decide) (zE_29 _ _) 1 (by decide) kw_169 rfl rfl dX1_measure_54 ?_
        refine zt_iload_n hX 2 dX1_measure_57 rfl rfl ?_
        obtain ⟨h25, hf⟩ := hf
        refine zt_aaloadM hX dX1_measure_58 (by decide) rfl (k1 := 42) rfl h25 ?_
        refine zt_iload_n hX 3 dX1_measure_59 rfl rfl ?_
        refine zt_iconst hX dX1_measure_60 (v := (0 : Int32)) (by decide) ?_
        obtain ⟨h26, hf⟩ := hf
        refine zt_iastore hX dX1_measure_61 (z_row42 (z_lt h25)) (z_sh42 (z_lt h25)) h26 ?_
        refine zt_nms (fun σ27 d27 => ?_)
        replace hf := hf σ27 d27
        exact zt_sub [0, 1, 2, 3] rfl (t_X1_measure_62 hX hY ih2 _ _ _ hf)
set_option maxHeartbeats 4000000 in
set_option maxRecDepth 100000 in
theorem c_X1_measure {l : Launch} {D : va_G} {cI cJ cM cS : ClassId} {n0 : Nat} {a2 : Int32} {σ : z_S} {Q : z_S → Prop} (hf : w_X1_measure a2 σ Q) : z_cv l D cI cJ cM cS n0 yX1_measure cX1_measure 5 rm_X1_measure 0 0 [.ref (n0 + 29), .ref (n0 + 1), .int a2] σ Q := by
  refine z_ofv (by decide +kernel) (Nat.le_of_ble_eq_true rfl) (fun p e s m args below meth c hX hY => ?_)
  unfold w_X1_measure at hf
  refine zt_L (L' := [(0, .ref (n0 + 29)), (1, .ref (n0 + 1)), (2, .int a2)]) rfl ?_
  refine zt_iconst hX dX1_measure_0 (v := (0 : Int32)) (by decide) ?_
  refine zt_istore_n (L' := [(3, .int (0 : Int32)), (0, .ref (n0 + 29)), (1, .ref (n0 + 1)), (2, .int a2)]) hX dX1_measure_1 rfl (by decide) rfl ?_
  exact zt_sub [1, 2, 3, 0] rfl (t_X1_measure_2 hX hY 400 _ _ _ hf)

theorem dX4_countChildren_0 : decode cX4_countChildren 0 = .ok (.iconst 0, 1) := by decide +kernel
theorem dX4_countChildren_1 : decode cX4_countChildren 1 = .ok (.istore_n 2, 1) := by decide +kernel
theorem dX4_countChildren_2 : decode cX4_countChildren 2 = .ok (.iload_n 1, 1) := by decide +kernel
theorem dX4_countChildren_3 : decode cX4_countChildren 3 = .ok (.iconst 1, 1) := by decide +kernel
theorem dX4_countChildren_4 : decode cX4_countChildren 4 = .ok (.iadd, 1) := by decide +kernel
theorem dX4_countChildren_5 : decode cX4_countChildren 5 = .ok (.istore_n 3, 1) := by decide +kernel
theorem dX4_countChildren_6 : decode cX4_countChildren 6 = .ok (.iload_n 3, 1) := by decide +kernel
theorem dX4_countChildren_7 : decode cX4_countChildren 7 = .ok (.aload_n 0, 1) := by decide +kernel
theorem dX4_countChildren_8 : decode cX4_countChildren 8 = .ok (.getfield 42, 3) := by decide +kernel
theorem dX4_countChildren_11 : decode cX4_countChildren 11 = .ok (.if_icmp .ge 22, 3) := by decide +kernel
theorem dX4_countChildren_14 : decode cX4_countChildren 14 = .ok (.aload_n 0, 1) := by decide +kernel
theorem dX4_countChildren_15 : decode cX4_countChildren 15 = .ok (.getfield 18, 3) := by decide +kernel
theorem dX4_countChildren_18 : decode cX4_countChildren 18 = .ok (.iload_n 3, 1) := by decide +kernel
theorem dX4_countChildren_19 : decode cX4_countChildren 19 = .ok (.iaload, 1) := by decide +kernel
theorem dX4_countChildren_20 : decode cX4_countChildren 20 = .ok (.iload_n 1, 1) := by decide +kernel
theorem dX4_countChildren_21 : decode cX4_countChildren 21 = .ok (.if_icmp .ne 6, 3) := by decide +kernel
theorem dX4_countChildren_24 : decode cX4_countChildren 24 = .ok (.iinc 2 1, 3) := by decide +kernel
theorem dX4_countChildren_27 : decode cX4_countChildren 27 = .ok (.iinc 3 1, 3) := by decide +kernel
theorem dX4_countChildren_30 : decode cX4_countChildren 30 = .ok (.goto (-24), 3) := by decide +kernel
theorem dX4_countChildren_33 : decode cX4_countChildren 33 = .ok (.iload_n 2, 1) := by decide +kernel
theorem dX4_countChildren_34 : decode cX4_countChildren 34 = .ok (.ireturn, 1) := by decide +kernel
abbrev rm_X4_countChildren : Room := { frames := 0, cells := 0, slots := 0, locals := 0 }
theorem hy_X4_countChildren : yX4_countChildren.cls ≠ "java/lang/invoke/MethodHandle" ∧ yX4_countChildren.cls ≠ "java/lang/invoke/VarHandle" ∧ (parseMethodDescriptor yX4_countChildren.desc).map (fun d => d.parameters.length) = some 1 := by decide +kernel
def w_X4_countChildren_27 (k6 : Int32 → Int32 → Int32 → z_S → Prop) (Q : Int32 → z_S → Prop) (x1 : Int32) (x2 : Int32) (x3 : Int32) (σ : z_S) : Prop :=
  ∀ y5 : Int32, y5 = (x3 + (1 : Int32)) → k6 x1 x2 y5 σ
def wb_X4_countChildren_6  (Q : Int32 → z_S → Prop) (k6 : Int32 → Int32 → Int32 → z_S → Prop) (x1 : Int32) (x2 : Int32) (x3 : Int32) (σ : z_S) : Prop :=
  if (zg_i σ 1 0) ≤ x3 then (Q x2 σ) else (vp_in x3 10 ∧ if (zg_i σ 2 x3.toNatClampNeg) = x1 then (∀ y6 : Int32, y6 = (x2 + (1 : Int32)) → w_X4_countChildren_27 k6 Q x1 y6 x3 σ) else (w_X4_countChildren_27 k6 Q x1 x2 x3 σ))
def w_X4_countChildren_6  (Q : Int32 → z_S → Prop) : Nat → Int32 → Int32 → Int32 → z_S → Prop
  | 0 => fun _ _ _ _ => False
  | n + 1 => wb_X4_countChildren_6  Q (w_X4_countChildren_6  Q n)
def w_X4_countChildren (a1 : Int32) (σ : z_S) (Q : Int32 → z_S → Prop) : Prop :=
  ∀ y1 : Int32, y1 = (a1 + (1 : Int32)) → w_X4_countChildren_6 Q 400 a1 (0 : Int32) y1 σ
set_option maxHeartbeats 4000000 in
set_option maxRecDepth 100000 in
theorem t_X4_countChildren_27 {l : Launch} {D : va_G} {cI cJ cM cS : ClassId} {n0 : Nat} {p : Program} {e : Env} {s : State} {m : MethodId} {args : Array Value} {below : List Frame} {meth : Method} {c : Code} {k6 : Int32 → Int32 → Int32 → z_S → Prop} {Q : Int32 → z_S → Prop} (hX : z_X D cI cJ cM cS p s m args c cX4_countChildren 4 yX4_countChildren.cls) (hY : z_Y s meth (some .int)) (hk6 : ∀ (x1 : Int32) (x2 : Int32) (x3 : Int32) (σ : z_S), k6 x1 x2 x3 σ → z_t D cI cJ cM cS n0 p l e rm_X4_countChildren s m args below meth c 4 (MQ below (va_Qi Q (fun u t => z_Bq D cI cJ cM cS n0 u t) (z_Ab n0)) args s 0 0 (z_Ab n0)) 0 0 6 [(0, .ref (n0 + 1)), (1, .int x1), (2, .int x2), (3, .int x3)] [] σ) (x1 : Int32) (x2 : Int32) (x3 : Int32) (σ : z_S) (hf : w_X4_countChildren_27 k6 Q x1 x2 x3 σ) : z_t D cI cJ cM cS n0 p l e rm_X4_countChildren s m args below meth c 4 (MQ below (va_Qi Q (fun u t => z_Bq D cI cJ cM cS n0 u t) (z_Ab n0)) args s 0 0 (z_Ab n0)) 0 0 27 [(0, .ref (n0 + 1)), (1, .int x1), (2, .int x2), (3, .int x3)] [] σ := by
  unfold w_X4_countChildren_27 at hf
  obtain ⟨y5, e5⟩ : ∃ y : Int32, y = (x3 + (1 : Int32)) := ⟨_, rfl⟩
  replace hf := hf y5 e5
  refine zt_iinc (L' := [(3, .int y5), (0, .ref (n0 + 1)), (1, .int x1), (2, .int x2)]) hX 3 dX4_countChildren_27 rfl (v := y5) (by rw [e5]; rfl) (by decide) rfl ?_
  refine zt_goto hX dX4_countChildren_30 (tgt := 6) (by decide) ?_
  exact zt_sub [1, 2, 3, 0] rfl (hk6 _ _ _ _ hf)
set_option maxHeartbeats 4000000 in
set_option maxRecDepth 100000 in
theorem t_X4_countChildren_6 {l : Launch} {D : va_G} {cI cJ cM cS : ClassId} {n0 : Nat} {p : Program} {e : Env} {s : State} {m : MethodId} {args : Array Value} {below : List Frame} {meth : Method} {c : Code}  {Q : Int32 → z_S → Prop} (hX : z_X D cI cJ cM cS p s m args c cX4_countChildren 4 yX4_countChildren.cls) (hY : z_Y s meth (some .int))  : ∀ (n : Nat) (x1 : Int32) (x2 : Int32) (x3 : Int32) (σ : z_S), w_X4_countChildren_6  Q n x1 x2 x3 σ → z_t D cI cJ cM cS n0 p l e rm_X4_countChildren s m args below meth c 4 (MQ below (va_Qi Q (fun u t => z_Bq D cI cJ cM cS n0 u t) (z_Ab n0)) args s 0 0 (z_Ab n0)) 0 0 6 [(0, .ref (n0 + 1)), (1, .int x1), (2, .int x2), (3, .int x3)] [] σ := by
  intro n
  induction n with
  | zero => intro _ _ _ _ hf; exact hf.elim
  | succ n ih6 =>
    intro x1 x2 x3 σ hf
    have hf : wb_X4_countChildren_6  Q (w_X4_countChildren_6  Q n) x1 x2 x3 σ := hf
    unfold wb_X4_countChildren_6 at hf
    refine zt_iload_n hX 3 dX4_countChildren_6 rfl rfl ?_
    refine zt_aload_n hX 0 dX4_countChildren_7 rfl rfl ?_
    refine zt_get_X4 hX (by decide) (zE_1 _ _) 0 (by decide) kw_87 rfl rfl dX4_countChildren_8 ?_
    refine zt_icmp_ge hX dX4_countChildren_11 (tgt := 33) (by decide) (fun c2 => ?_) (fun c2 => ?_)
    · replace hf := z_pos hf c2
      refine zt_iload_n hX 2 dX4_countChildren_33 rfl rfl ?_
      exact zt_iret hX hY dX4_countChildren_34 hf
    · replace hf := z_neg hf c2
      refine zt_aload_n hX 0 dX4_countChildren_14 rfl rfl ?_
      refine zt_get_X4 hX (by decide) (zE_1 _ _) 4 (by decide) kw_99 rfl rfl dX4_countChildren_15 ?_
      refine zt_iload_n hX 3 dX4_countChildren_18 rfl rfl ?_
      obtain ⟨h3, hf⟩ := hf
      refine zt_iaload hX dX4_countChildren_19 (by decide) rfl h3 ?_
      refine zt_iload_n hX 1 dX4_countChildren_20 rfl rfl ?_
      refine zt_icmp_ne hX dX4_countChildren_21 (tgt := 27) (by decide) (fun c4 => ?_) (fun c4 => ?_)
      · replace hf := z_neg hf c4
        exact zt_sub [0, 1, 2, 3] rfl (t_X4_countChildren_27 hX hY ih6 _ _ _ _ hf)
      · replace hf := z_pos hf c4
        obtain ⟨y6, e6⟩ : ∃ y : Int32, y = (x2 + (1 : Int32)) := ⟨_, rfl⟩
        replace hf := hf y6 e6
        refine zt_iinc (L' := [(2, .int y6), (0, .ref (n0 + 1)), (1, .int x1), (3, .int x3)]) hX 2 dX4_countChildren_24 rfl (v := y6) (by rw [e6]; rfl) (by decide) rfl ?_
        exact zt_sub [1, 2, 0, 3] rfl (t_X4_countChildren_27 hX hY ih6 _ _ _ _ hf)
set_option maxHeartbeats 4000000 in
set_option maxRecDepth 100000 in
theorem c_X4_countChildren {l : Launch} {D : va_G} {cI cJ cM cS : ClassId} {n0 : Nat} {a1 : Int32} {σ : z_S} {Q : Int32 → z_S → Prop} (hf : w_X4_countChildren a1 σ Q) : z_ci l D cI cJ cM cS n0 yX4_countChildren cX4_countChildren 4 .int rm_X4_countChildren 0 0 [.ref (n0 + 1), .int a1] σ Q := by
  refine z_ofi (by decide +kernel) (Nat.le_of_ble_eq_true rfl) (fun p e s m args below meth c hX hY => ?_)
  unfold w_X4_countChildren at hf
  refine zt_L (L' := [(0, .ref (n0 + 1)), (1, .int a1)]) rfl ?_
  refine zt_iconst hX dX4_countChildren_0 (v := (0 : Int32)) (by decide) ?_
  refine zt_istore_n (L' := [(2, .int (0 : Int32)), (0, .ref (n0 + 1)), (1, .int a1)]) hX dX4_countChildren_1 rfl (by decide) rfl ?_
  refine zt_iload_n hX 2 dX4_countChildren_2 rfl rfl ?_
  refine zt_iconst hX dX4_countChildren_3 (v := (1 : Int32)) (by decide) ?_
  refine zt_iadd hX dX4_countChildren_4 ?_
  refine zt_nmi (fun y1 e1 => ?_)
  replace hf := hf y1 e1
  refine zt_istore_n (L' := [(3, .int y1), (2, .int (0 : Int32)), (0, .ref (n0 + 1)), (1, .int a1)]) hX dX4_countChildren_5 rfl (by decide) rfl ?_
  exact zt_sub [2, 3, 1, 0] rfl (t_X4_countChildren_6 hX hY 400 _ _ _ _ hf)

theorem dX0_fill_0 : decode cX0_fill 0 = .ok (.iconst 0, 1) := by decide +kernel
theorem dX0_fill_1 : decode cX0_fill 1 = .ok (.istore_n 3, 1) := by decide +kernel
theorem dX0_fill_2 : decode cX0_fill 2 = .ok (.iload_n 3, 1) := by decide +kernel
theorem dX0_fill_3 : decode cX0_fill 3 = .ok (.aload_n 1, 1) := by decide +kernel
theorem dX0_fill_4 : decode cX0_fill 4 = .ok (.getfield 26, 3) := by decide +kernel
theorem dX0_fill_7 : decode cX0_fill 7 = .ok (.if_icmp .ge 15, 3) := by decide +kernel
theorem dX0_fill_10 : decode cX0_fill 10 = .ok (.aload_n 2, 1) := by decide +kernel
theorem dX0_fill_11 : decode cX0_fill 11 = .ok (.aload_n 1, 1) := by decide +kernel
theorem dX0_fill_12 : decode cX0_fill 12 = .ok (.iload_n 3, 1) := by decide +kernel
theorem dX0_fill_13 : decode cX0_fill 13 = .ok (.invokevirtual 32, 3) := by decide +kernel
theorem dX0_fill_16 : decode cX0_fill 16 = .ok (.iinc 3 1, 3) := by decide +kernel
theorem dX0_fill_19 : decode cX0_fill 19 = .ok (.goto (-17), 3) := by decide +kernel
theorem dX0_fill_22 : decode cX0_fill 22 = .ok (.aload_n 2, 1) := by decide +kernel
theorem dX0_fill_23 : decode cX0_fill 23 = .ok (.getfield 38, 3) := by decide +kernel
theorem dX0_fill_26 : decode cX0_fill 26 = .ok (.iconst 0, 1) := by decide +kernel
theorem dX0_fill_27 : decode cX0_fill 27 = .ok (.aaload, 1) := by decide +kernel
theorem dX0_fill_28 : decode cX0_fill 28 = .ok (.iconst 0, 1) := by decide +kernel
theorem dX0_fill_29 : decode cX0_fill 29 = .ok (.aload_n 0, 1) := by decide +kernel
theorem dX0_fill_30 : decode cX0_fill 30 = .ok (.getfield 11, 3) := by decide +kernel
theorem dX0_fill_33 : decode cX0_fill 33 = .ok (.iconst 0, 1) := by decide +kernel
theorem dX0_fill_34 : decode cX0_fill 34 = .ok (.aaload, 1) := by decide +kernel
theorem dX0_fill_35 : decode cX0_fill 35 = .ok (.iconst 0, 1) := by decide +kernel
theorem dX0_fill_36 : decode cX0_fill 36 = .ok (.bipush 12, 2) := by decide +kernel
theorem dX0_fill_38 : decode cX0_fill 38 = .ok (.invokestatic 41, 3) := by decide +kernel
theorem dX0_fill_41 : decode cX0_fill 41 = .ok (.iconst 0, 1) := by decide +kernel
theorem dX0_fill_42 : decode cX0_fill 42 = .ok (.istore_n 3, 1) := by decide +kernel
theorem dX0_fill_43 : decode cX0_fill 43 = .ok (.iload_n 3, 1) := by decide +kernel
theorem dX0_fill_44 : decode cX0_fill 44 = .ok (.aload_n 1, 1) := by decide +kernel
theorem dX0_fill_45 : decode cX0_fill 45 = .ok (.getfield 26, 3) := by decide +kernel
theorem dX0_fill_48 : decode cX0_fill 48 = .ok (.if_icmp .ge 42, 3) := by decide +kernel
theorem dX0_fill_51 : decode cX0_fill 51 = .ok (.aload_n 1, 1) := by decide +kernel
theorem dX0_fill_52 : decode cX0_fill 52 = .ok (.iload_n 3, 1) := by decide +kernel
theorem dX0_fill_53 : decode cX0_fill 53 = .ok (.invokevirtual 47, 3) := by decide +kernel
theorem dX0_fill_56 : decode cX0_fill 56 = .ok (.ifCond .le 28, 3) := by decide +kernel
theorem dX0_fill_59 : decode cX0_fill 59 = .ok (.iconst 0, 1) := by decide +kernel
theorem dX0_fill_60 : decode cX0_fill 60 = .ok (.istore 4, 2) := by decide +kernel
theorem dX0_fill_62 : decode cX0_fill 62 = .ok (.iload 4, 2) := by decide +kernel
theorem dX0_fill_64 : decode cX0_fill 64 = .ok (.bipush 12, 2) := by decide +kernel
theorem dX0_fill_66 : decode cX0_fill 66 = .ok (.if_icmp .ge 18, 3) := by decide +kernel
theorem dX0_fill_69 : decode cX0_fill 69 = .ok (.aload_n 0, 1) := by decide +kernel
theorem dX0_fill_70 : decode cX0_fill 70 = .ok (.aload_n 1, 1) := by decide +kernel
theorem dX0_fill_71 : decode cX0_fill 71 = .ok (.aload_n 2, 1) := by decide +kernel
theorem dX0_fill_72 : decode cX0_fill 72 = .ok (.iload_n 3, 1) := by decide +kernel
theorem dX0_fill_73 : decode cX0_fill 73 = .ok (.iload 4, 2) := by decide +kernel
theorem dX0_fill_75 : decode cX0_fill 75 = .ok (.invokevirtual 51, 3) := by decide +kernel
theorem dX0_fill_78 : decode cX0_fill 78 = .ok (.iinc 4 1, 3) := by decide +kernel
theorem dX0_fill_81 : decode cX0_fill 81 = .ok (.goto (-19), 3) := by decide +kernel
theorem dX0_fill_84 : decode cX0_fill 84 = .ok (.iinc 3 1, 3) := by decide +kernel
theorem dX0_fill_87 : decode cX0_fill 87 = .ok (.goto (-44), 3) := by decide +kernel
theorem dX0_fill_90 : decode cX0_fill 90 = .ok (.return_, 1) := by decide +kernel
abbrev rm_X0_fill : Room := { frames := 4, cells := 0, slots := 0, locals := 96 }
theorem hy_X0_fill : yX0_fill.cls ≠ "java/lang/invoke/MethodHandle" ∧ yX0_fill.cls ≠ "java/lang/invoke/VarHandle" ∧ (parseMethodDescriptor yX0_fill.desc).map (fun d => d.parameters.length) = some 2 := by decide +kernel
def w_X0_fill_84 (k43 : Int32 → z_S → Prop) (Q : z_S → Prop) (x3 : Int32) (σ : z_S) : Prop :=
  ∀ y9 : Int32, y9 = (x3 + (1 : Int32)) → k43 y9 σ
def wb_X0_fill_62 (k43 : Int32 → z_S → Prop) (Q : z_S → Prop) (k62 : Int32 → Int32 → z_S → Prop) (x3 : Int32) (x4 : Int32) (σ : z_S) : Prop :=
  if (12 : Int32) ≤ x4 then (w_X0_fill_84 k43 Q x3 σ) else (w_X0_allocate x3 x4 σ (fun σ12 => ∀ y13 : Int32, y13 = (x4 + (1 : Int32)) → k62 x3 y13 σ12))
def w_X0_fill_62 (k43 : Int32 → z_S → Prop) (Q : z_S → Prop) : Nat → Int32 → Int32 → z_S → Prop
  | 0 => fun _ _ _ => False
  | n + 1 => wb_X0_fill_62 k43 Q (w_X0_fill_62 k43 Q n)
def wb_X0_fill_43  (Q : z_S → Prop) (k43 : Int32 → z_S → Prop) (x3 : Int32) (σ : z_S) : Prop :=
  if (zg_i σ 1 0) ≤ x3 then (Q σ) else (w_X4_countChildren x3 σ (fun r6 σ7 => if r6 ≤ 0 then (w_X0_fill_84 k43 Q x3 σ7) else (w_X0_fill_62 k43 Q 400 x3 (0 : Int32) σ7)))
def w_X0_fill_43  (Q : z_S → Prop) : Nat → Int32 → z_S → Prop
  | 0 => fun _ _ => False
  | n + 1 => wb_X0_fill_43  Q (w_X0_fill_43  Q n)
def wb_X0_fill_2  (Q : z_S → Prop) (k2 : Int32 → z_S → Prop) (x3 : Int32) (σ : z_S) : Prop :=
  if (zg_i σ 1 0) ≤ x3 then (vp_in (0 : Int32) 10 ∧ vp_in (0 : Int32) 10 ∧ ∀ σ4 : z_S, σ4 = zs_row σ (55 + (0 : Int32).toNatClampNeg) (va_cpy (zg_i σ (31 + (0 : Int32).toNatClampNeg)) (zg_i σ (55 + (0 : Int32).toNatClampNeg)) 0 0 12) → w_X0_fill_43 Q 400 (0 : Int32) σ4) else (w_X1_measure x3 σ (fun σ15 => ∀ y16 : Int32, y16 = (x3 + (1 : Int32)) → k2 y16 σ15))
def w_X0_fill_2  (Q : z_S → Prop) : Nat → Int32 → z_S → Prop
  | 0 => fun _ _ => False
  | n + 1 => wb_X0_fill_2  Q (w_X0_fill_2  Q n)
def w_X0_fill  (σ : z_S) (Q : z_S → Prop) : Prop :=
  w_X0_fill_2 Q 400 (0 : Int32) σ
set_option maxHeartbeats 4000000 in
set_option maxRecDepth 100000 in
theorem t_X0_fill_84 {l : Launch} {D : va_G} {cI cJ cM cS : ClassId} {n0 : Nat} {p : Program} {e : Env} {s : State} {m : MethodId} {args : Array Value} {below : List Frame} {meth : Method} {c : Code} {k43 : Int32 → z_S → Prop} {Q : z_S → Prop} (hX : z_X D cI cJ cM cS p s m args c cX0_fill 5 yX0_fill.cls) (hY : z_Y s meth none) (hk43 : ∀ (x3 : Int32) (σ : z_S), k43 x3 σ → z_t D cI cJ cM cS n0 p l e rm_X0_fill s m args below meth c 5 (MQ below (va_Qv Q (fun u t => z_Bq D cI cJ cM cS n0 u t) (z_Ab n0)) args s 0 0 (z_Ab n0)) 0 0 43 [(0, .ref (n0 + 53)), (1, .ref (n0 + 1)), (2, .ref (n0 + 29)), (3, .int x3)] [] σ) (x3 : Int32) (σ : z_S) (hf : w_X0_fill_84 k43 Q x3 σ) : z_t D cI cJ cM cS n0 p l e rm_X0_fill s m args below meth c 5 (MQ below (va_Qv Q (fun u t => z_Bq D cI cJ cM cS n0 u t) (z_Ab n0)) args s 0 0 (z_Ab n0)) 0 0 84 [(0, .ref (n0 + 53)), (1, .ref (n0 + 1)), (2, .ref (n0 + 29)), (3, .int x3)] [] σ := by
  unfold w_X0_fill_84 at hf
  obtain ⟨y9, e9⟩ : ∃ y : Int32, y = (x3 + (1 : Int32)) := ⟨_, rfl⟩
  replace hf := hf y9 e9
  refine zt_iinc (L' := [(3, .int y9), (0, .ref (n0 + 53)), (1, .ref (n0 + 1)), (2, .ref (n0 + 29))]) hX 3 dX0_fill_84 rfl (v := y9) (by rw [e9]; rfl) (by decide) rfl ?_
  refine zt_goto hX dX0_fill_87 (tgt := 43) (by decide) ?_
  exact zt_sub [1, 2, 3, 0] rfl (hk43 _ _ hf)
set_option maxHeartbeats 4000000 in
set_option maxRecDepth 100000 in
theorem t_X0_fill_62 {l : Launch} {D : va_G} {cI cJ cM cS : ClassId} {n0 : Nat} {p : Program} {e : Env} {s : State} {m : MethodId} {args : Array Value} {below : List Frame} {meth : Method} {c : Code} {k43 : Int32 → z_S → Prop} {Q : z_S → Prop} (hX : z_X D cI cJ cM cS p s m args c cX0_fill 5 yX0_fill.cls) (hY : z_Y s meth none) (hk43 : ∀ (x3 : Int32) (σ : z_S), k43 x3 σ → z_t D cI cJ cM cS n0 p l e rm_X0_fill s m args below meth c 5 (MQ below (va_Qv Q (fun u t => z_Bq D cI cJ cM cS n0 u t) (z_Ab n0)) args s 0 0 (z_Ab n0)) 0 0 43 [(0, .ref (n0 + 53)), (1, .ref (n0 + 1)), (2, .ref (n0 + 29)), (3, .int x3)] [] σ) : ∀ (n : Nat) (x3 : Int32) (x4 : Int32) (σ : z_S), w_X0_fill_62 k43 Q n x3 x4 σ → z_t D cI cJ cM cS n0 p l e rm_X0_fill s m args below meth c 5 (MQ below (va_Qv Q (fun u t => z_Bq D cI cJ cM cS n0 u t) (z_Ab n0)) args s 0 0 (z_Ab n0)) 0 0 62 [(0, .ref (n0 + 53)), (1, .ref (n0 + 1)), (2, .ref (n0 + 29)), (3, .int x3), (4, .int x4)] [] σ := by
  intro n
  induction n with
  | zero => intro _ _ _ hf; exact hf.elim
  | succ n ih62 =>
    intro x3 x4 σ hf
    have hf : wb_X0_fill_62 k43 Q (w_X0_fill_62 k43 Q n) x3 x4 σ := hf
    unfold wb_X0_fill_62 at hf
    refine zt_iload hX 4 dX0_fill_62 rfl ?_
    refine zt_bipush hX dX0_fill_64 (v := (12 : Int32)) (by decide) ?_
    refine zt_icmp_ge hX dX0_fill_66 (tgt := 84) (by decide) (fun c10 => ?_) (fun c10 => ?_)
    · replace hf := z_pos hf c10
      exact zt_sub [0, 1, 2, 3] rfl (t_X0_fill_84 hX hY hk43 _ _ hf)
    · replace hf := z_neg hf c10
      refine zt_aload_n hX 0 dX0_fill_69 rfl rfl ?_
      refine zt_aload_n hX 1 dX0_fill_70 rfl rfl ?_
      refine zt_aload_n hX 2 dX0_fill_71 rfl rfl ?_
      refine zt_iload_n hX 3 dX0_fill_72 rfl rfl ?_
      refine zt_iload hX 4 dX0_fill_73 rfl ?_
      refine zt_callvV hX hY (av := [.ref (n0 + 1), .ref (n0 + 29), .int x3, .int x4]) (c_X0_allocate hf) dX0_fill_75 rfl kw_441 kw_443 kw_7 kw_65 kw_444 ⟨rfl, rfl⟩ hy_X0_allocate ⟨by decide, by decide⟩ ⟨by decide, by decide⟩ (Nat.le_of_ble_eq_true rfl) (by decide) (zE_53 _ _) rfl rfl (fun σ12 hf => ?_)
      obtain ⟨y13, e13⟩ : ∃ y : Int32, y = (x4 + (1 : Int32)) := ⟨_, rfl⟩
      replace hf := hf y13 e13
      refine zt_iinc (L' := [(4, .int y13), (0, .ref (n0 + 53)), (1, .ref (n0 + 1)), (2, .ref (n0 + 29)), (3, .int x3)]) hX 4 dX0_fill_78 rfl (v := y13) (by rw [e13]; rfl) (by decide) rfl ?_
      refine zt_goto hX dX0_fill_81 (tgt := 62) (by decide) ?_
      exact zt_sub [1, 2, 3, 4, 0] rfl (ih62 _ _ _ hf)
set_option maxHeartbeats 4000000 in
set_option maxRecDepth 100000 in
theorem t_X0_fill_43 {l : Launch} {D : va_G} {cI cJ cM cS : ClassId} {n0 : Nat} {p : Program} {e : Env} {s : State} {m : MethodId} {args : Array Value} {below : List Frame} {meth : Method} {c : Code}  {Q : z_S → Prop} (hX : z_X D cI cJ cM cS p s m args c cX0_fill 5 yX0_fill.cls) (hY : z_Y s meth none)  : ∀ (n : Nat) (x3 : Int32) (σ : z_S), w_X0_fill_43  Q n x3 σ → z_t D cI cJ cM cS n0 p l e rm_X0_fill s m args below meth c 5 (MQ below (va_Qv Q (fun u t => z_Bq D cI cJ cM cS n0 u t) (z_Ab n0)) args s 0 0 (z_Ab n0)) 0 0 43 [(0, .ref (n0 + 53)), (1, .ref (n0 + 1)), (2, .ref (n0 + 29)), (3, .int x3)] [] σ := by
  intro n
  induction n with
  | zero => intro _ _ hf; exact hf.elim
  | succ n ih43 =>
    intro x3 σ hf
    have hf : wb_X0_fill_43  Q (w_X0_fill_43  Q n) x3 σ := hf
    unfold wb_X0_fill_43 at hf
    refine zt_iload_n hX 3 dX0_fill_43 rfl rfl ?_
    refine zt_aload_n hX 1 dX0_fill_44 rfl rfl ?_
    refine zt_get_X4 hX (by decide) (zE_1 _ _) 0 (by decide) kw_89 rfl rfl dX0_fill_45 ?_
    refine zt_icmp_ge hX dX0_fill_48 (tgt := 90) (by decide) (fun c5 => ?_) (fun c5 => ?_)
    · replace hf := z_pos hf c5
      exact zt_vret hX hY dX0_fill_90 hf
    · replace hf := z_neg hf c5
      refine zt_aload_n hX 1 dX0_fill_51 rfl rfl ?_
      refine zt_iload_n hX 3 dX0_fill_52 rfl rfl ?_
      refine zt_calliV hX hY (av := [.int x3]) (c_X4_countChildren hf) dX0_fill_53 rfl kw_440 kw_313 kw_314 kw_62 kw_315 ⟨rfl, rfl⟩ hy_X4_countChildren ⟨by decide, by decide⟩ ⟨by decide, by decide⟩ (Nat.le_of_ble_eq_true rfl) (by decide) (zE_1 _ _) rfl rfl (fun r6 σ7 hf => ?_)
      refine zt_if_le hX dX0_fill_56 (tgt := 84) (by decide) (fun c8 => ?_) (fun c8 => ?_)
      · replace hf := z_pos hf c8
        exact zt_sub [0, 1, 2, 3] rfl (t_X0_fill_84 hX hY ih43 _ _ hf)
      · replace hf := z_neg hf c8
        refine zt_iconst hX dX0_fill_59 (v := (0 : Int32)) (by decide) ?_
        refine zt_istore (L' := [(4, .int (0 : Int32)), (0, .ref (n0 + 53)), (1, .ref (n0 + 1)), (2, .ref (n0 + 29)), (3, .int x3)]) hX dX0_fill_60 (by decide) rfl ?_
        exact zt_sub [1, 2, 3, 4, 0] rfl (t_X0_fill_62 hX hY ih43 400 _ _ _ hf)
set_option maxHeartbeats 4000000 in
set_option maxRecDepth 100000 in
theorem t_X0_fill_2 {l : Launch} {D : va_G} {cI cJ cM cS : ClassId} {n0 : Nat} {p : Program} {e : Env} {s : State} {m : MethodId} {args : Array Value} {below : List Frame} {meth : Method} {c : Code}  {Q : z_S → Prop} (hX : z_X D cI cJ cM cS p s m args c cX0_fill 5 yX0_fill.cls) (hY : z_Y s meth none)  : ∀ (n : Nat) (x3 : Int32) (σ : z_S), w_X0_fill_2  Q n x3 σ → z_t D cI cJ cM cS n0 p l e rm_X0_fill s m args below meth c 5 (MQ below (va_Qv Q (fun u t => z_Bq D cI cJ cM cS n0 u t) (z_Ab n0)) args s 0 0 (z_Ab n0)) 0 0 2 [(0, .ref (n0 + 53)), (1, .ref (n0 + 1)), (2, .ref (n0 + 29)), (3, .int x3)] [] σ := by
  intro n
  induction n with
  | zero => intro _ _ hf; exact hf.elim
  | succ n ih2 =>
    intro x3 σ hf
    have hf : wb_X0_fill_2  Q (w_X0_fill_2  Q n) x3 σ := hf
    unfold wb_X0_fill_2 at hf
    refine zt_iload_n hX 3 dX0_fill_2 rfl rfl ?_
    refine zt_aload_n hX 1 dX0_fill_3 rfl rfl ?_
    refine zt_get_X4 hX (by decide) (zE_1 _ _) 0 (by decide) kw_89 rfl rfl dX0_fill_4 ?_
    refine zt_icmp_ge hX dX0_fill_7 (tgt := 22) (by decide) (fun c1 => ?_) (fun c1 => ?_)
    · replace hf := z_pos hf c1
      refine zt_aload_n hX 2 dX0_fill_22 rfl rfl ?_
      refine zt_get_X1 hX (by decide) (zE_29 _ _) 0 (by decide) kw_167 rfl rfl dX0_fill_23 ?_
      refine zt_iconst hX dX0_fill_26 (v := (0 : Int32)) (by decide) ?_
      obtain ⟨h2, hf⟩ := hf
      refine zt_aaloadM hX dX0_fill_27 (by decide) rfl (k1 := 31) rfl h2 ?_
      refine zt_iconst hX dX0_fill_28 (v := (0 : Int32)) (by decide) ?_
      refine zt_aload_n hX 0 dX0_fill_29 rfl rfl ?_
      refine zt_get_X0 hX (by decide) (zE_53 _ _) 0 (by decide) kw_186 rfl rfl dX0_fill_30 ?_
      refine zt_iconst hX dX0_fill_33 (v := (0 : Int32)) (by decide) ?_
      obtain ⟨h3, hf⟩ := hf
      refine zt_aaloadM hX dX0_fill_34 (by decide) rfl (k1 := 55) rfl h3 ?_
      refine zt_iconst hX dX0_fill_35 (v := (0 : Int32)) (by decide) ?_
      refine zt_bipush hX dX0_fill_36 (v := (12 : Int32)) (by decide) ?_
      refine zt_copy hX (len0 := 12) (len1 := 12) dX0_fill_38 kw_439 (fun q => Nat.lt_of_lt_of_le (z_row31 (z_lt h2)) q) (fun q => Nat.lt_of_lt_of_le (z_row55 (z_lt h3)) q) (z_sh31 (z_lt h2)) (z_sh55 (z_lt h3)) (by decide) (by decide) (by decide) (by decide) (by decide) (by decide) (Nat.le_of_ble_eq_true rfl) ?_
      refine zt_nms (fun σ4 d4 => ?_)
      replace hf := hf σ4 d4
      refine zt_iconst hX dX0_fill_41 (v := (0 : Int32)) (by decide) ?_
      refine zt_istore_n (L' := [(3, .int (0 : Int32)), (0, .ref (n0 + 53)), (1, .ref (n0 + 1)), (2, .ref (n0 + 29))]) hX dX0_fill_42 rfl (by decide) rfl ?_
      exact zt_sub [1, 2, 3, 0] rfl (t_X0_fill_43 hX hY 400 _ _ hf)
    · replace hf := z_neg hf c1
      refine zt_aload_n hX 2 dX0_fill_10 rfl rfl ?_
      refine zt_aload_n hX 1 dX0_fill_11 rfl rfl ?_
      refine zt_iload_n hX 3 dX0_fill_12 rfl rfl ?_
      refine zt_callvV hX hY (av := [.ref (n0 + 1), .int x3]) (c_X1_measure hf) dX0_fill_13 rfl kw_438 kw_384 kw_385 kw_64 kw_386 ⟨rfl, rfl⟩ hy_X1_measure ⟨by decide, by decide⟩ ⟨by decide, by decide⟩ (Nat.le_of_ble_eq_true rfl) (by decide) (zE_29 _ _) rfl rfl (fun σ15 hf => ?_)
      obtain ⟨y16, e16⟩ : ∃ y : Int32, y = (x3 + (1 : Int32)) := ⟨_, rfl⟩
      replace hf := hf y16 e16
      refine zt_iinc (L' := [(3, .int y16), (0, .ref (n0 + 53)), (1, .ref (n0 + 1)), (2, .ref (n0 + 29))]) hX 3 dX0_fill_16 rfl (v := y16) (by rw [e16]; rfl) (by decide) rfl ?_
      refine zt_goto hX dX0_fill_19 (tgt := 2) (by decide) ?_
      exact zt_sub [1, 2, 3, 0] rfl (ih2 _ _ hf)
set_option maxHeartbeats 4000000 in
set_option maxRecDepth 100000 in
theorem c_X0_fill {l : Launch} {D : va_G} {cI cJ cM cS : ClassId} {n0 : Nat}  {σ : z_S} {Q : z_S → Prop} (hf : w_X0_fill  σ Q) : z_cv l D cI cJ cM cS n0 yX0_fill cX0_fill 5 rm_X0_fill 0 0 [.ref (n0 + 53), .ref (n0 + 1), .ref (n0 + 29)] σ Q := by
  refine z_ofv (by decide +kernel) (Nat.le_of_ble_eq_true rfl) (fun p e s m args below meth c hX hY => ?_)
  unfold w_X0_fill at hf
  refine zt_L (L' := [(0, .ref (n0 + 53)), (1, .ref (n0 + 1)), (2, .ref (n0 + 29))]) rfl ?_
  refine zt_iconst hX dX0_fill_0 (v := (0 : Int32)) (by decide) ?_
  refine zt_istore_n (L' := [(3, .int (0 : Int32)), (0, .ref (n0 + 53)), (1, .ref (n0 + 1)), (2, .ref (n0 + 29))]) hX dX0_fill_1 rfl (by decide) rfl ?_
  exact zt_sub [1, 2, 3, 0] rfl (t_X0_fill_2 hX hY 400 _ _ hf)

theorem dX1_measureFamily_0 : decode cX1_measureFamily 0 = .ok (.aload_n 0, 1) := by decide +kernel
theorem dX1_measureFamily_1 : decode cX1_measureFamily 1 = .ok (.aload_n 1, 1) := by decide +kernel
theorem dX1_measureFamily_2 : decode cX1_measureFamily 2 = .ok (.iload_n 2, 1) := by decide +kernel
theorem dX1_measureFamily_3 : decode cX1_measureFamily 3 = .ok (.invokevirtual 23, 3) := by decide +kernel
theorem dX1_measureFamily_6 : decode cX1_measureFamily 6 = .ok (.iload_n 2, 1) := by decide +kernel
theorem dX1_measureFamily_7 : decode cX1_measureFamily 7 = .ok (.iconst 1, 1) := by decide +kernel
theorem dX1_measureFamily_8 : decode cX1_measureFamily 8 = .ok (.iadd, 1) := by decide +kernel
theorem dX1_measureFamily_9 : decode cX1_measureFamily 9 = .ok (.istore_n 3, 1) := by decide +kernel
theorem dX1_measureFamily_10 : decode cX1_measureFamily 10 = .ok (.iload_n 3, 1) := by decide +kernel
theorem dX1_measureFamily_11 : decode cX1_measureFamily 11 = .ok (.aload_n 1, 1) := by decide +kernel
theorem dX1_measureFamily_12 : decode cX1_measureFamily 12 = .ok (.getfield 27, 3) := by decide +kernel
theorem dX1_measureFamily_15 : decode cX1_measureFamily 15 = .ok (.if_icmp .ge 25, 3) := by decide +kernel
theorem dX1_measureFamily_18 : decode cX1_measureFamily 18 = .ok (.aload_n 1, 1) := by decide +kernel
theorem dX1_measureFamily_19 : decode cX1_measureFamily 19 = .ok (.getfield 33, 3) := by decide +kernel
theorem dX1_measureFamily_22 : decode cX1_measureFamily 22 = .ok (.iload_n 3, 1) := by decide +kernel
theorem dX1_measureFamily_23 : decode cX1_measureFamily 23 = .ok (.iaload, 1) := by decide +kernel
theorem dX1_measureFamily_24 : decode cX1_measureFamily 24 = .ok (.iload_n 2, 1) := by decide +kernel
theorem dX1_measureFamily_25 : decode cX1_measureFamily 25 = .ok (.if_icmp .ne 9, 3) := by decide +kernel
theorem dX1_measureFamily_28 : decode cX1_measureFamily 28 = .ok (.aload_n 0, 1) := by decide +kernel
theorem dX1_measureFamily_29 : decode cX1_measureFamily 29 = .ok (.aload_n 1, 1) := by decide +kernel
theorem dX1_measureFamily_30 : decode cX1_measureFamily 30 = .ok (.iload_n 3, 1) := by decide +kernel
theorem dX1_measureFamily_31 : decode cX1_measureFamily 31 = .ok (.invokevirtual 23, 3) := by decide +kernel
theorem dX1_measureFamily_34 : decode cX1_measureFamily 34 = .ok (.iinc 3 1, 3) := by decide +kernel
theorem dX1_measureFamily_37 : decode cX1_measureFamily 37 = .ok (.goto (-27), 3) := by decide +kernel
theorem dX1_measureFamily_40 : decode cX1_measureFamily 40 = .ok (.return_, 1) := by decide +kernel
abbrev rm_X1_measureFamily : Room := { frames := 4, cells := 0, slots := 0, locals := 96 }
theorem hy_X1_measureFamily : yX1_measureFamily.cls ≠ "java/lang/invoke/MethodHandle" ∧ yX1_measureFamily.cls ≠ "java/lang/invoke/VarHandle" ∧ (parseMethodDescriptor yX1_measureFamily.desc).map (fun d => d.parameters.length) = some 2 := by decide +kernel
def w_X1_measureFamily_34 (k10 : Int32 → Int32 → z_S → Prop) (Q : z_S → Prop) (x2 : Int32) (x3 : Int32) (σ : z_S) : Prop :=
  ∀ y7 : Int32, y7 = (x3 + (1 : Int32)) → k10 x2 y7 σ
def wb_X1_measureFamily_10  (Q : z_S → Prop) (k10 : Int32 → Int32 → z_S → Prop) (x2 : Int32) (x3 : Int32) (σ : z_S) : Prop :=
  if (zg_i σ 1 0) ≤ x3 then (Q σ) else (vp_in x3 10 ∧ if (zg_i σ 2 x3.toNatClampNeg) = x2 then (w_X1_measure x3 σ (fun σ9 => w_X1_measureFamily_34 k10 Q x2 x3 σ9)) else (w_X1_measureFamily_34 k10 Q x2 x3 σ))
def w_X1_measureFamily_10  (Q : z_S → Prop) : Nat → Int32 → Int32 → z_S → Prop
  | 0 => fun _ _ _ => False
  | n + 1 => wb_X1_measureFamily_10  Q (w_X1_measureFamily_10  Q n)
def w_X1_measureFamily (a2 : Int32) (σ : z_S) (Q : z_S → Prop) : Prop :=
  w_X1_measure a2 σ (fun σ2 => ∀ y3 : Int32, y3 = (a2 + (1 : Int32)) → w_X1_measureFamily_10 Q 400 a2 y3 σ2)
set_option maxHeartbeats 4000000 in
set_option maxRecDepth 100000 in
theorem t_X1_measureFamily_34 {l : Launch} {D : va_G} {cI cJ cM cS : ClassId} {n0 : Nat} {p : Program} {e : Env} {s : State} {m : MethodId} {args : Array Value} {below : List Frame} {meth : Method} {c : Code} {k10 : Int32 → Int32 → z_S → Prop} {Q : z_S → Prop} (hX : z_X D cI cJ cM cS p s m args c cX1_measureFamily 4 yX1_measureFamily.cls) (hY : z_Y s meth none) (hk10 : ∀ (x2 : Int32) (x3 : Int32) (σ : z_S), k10 x2 x3 σ → z_t D cI cJ cM cS n0 p l e rm_X1_measureFamily s m args below meth c 4 (MQ below (va_Qv Q (fun u t => z_Bq D cI cJ cM cS n0 u t) (z_Ab n0)) args s 0 0 (z_Ab n0)) 0 0 10 [(0, .ref (n0 + 29)), (1, .ref (n0 + 1)), (2, .int x2), (3, .int x3)] [] σ) (x2 : Int32) (x3 : Int32) (σ : z_S) (hf : w_X1_measureFamily_34 k10 Q x2 x3 σ) : z_t D cI cJ cM cS n0 p l e rm_X1_measureFamily s m args below meth c 4 (MQ below (va_Qv Q (fun u t => z_Bq D cI cJ cM cS n0 u t) (z_Ab n0)) args s 0 0 (z_Ab n0)) 0 0 34 [(0, .ref (n0 + 29)), (1, .ref (n0 + 1)), (2, .int x2), (3, .int x3)] [] σ := by
  unfold w_X1_measureFamily_34 at hf
  obtain ⟨y7, e7⟩ : ∃ y : Int32, y = (x3 + (1 : Int32)) := ⟨_, rfl⟩
  replace hf := hf y7 e7
  refine zt_iinc (L' := [(3, .int y7), (0, .ref (n0 + 29)), (1, .ref (n0 + 1)), (2, .int x2)]) hX 3 dX1_measureFamily_34 rfl (v := y7) (by rw [e7]; rfl) (by decide) rfl ?_
  refine zt_goto hX dX1_measureFamily_37 (tgt := 10) (by decide) ?_
  exact zt_sub [1, 2, 3, 0] rfl (hk10 _ _ _ hf)
set_option maxHeartbeats 4000000 in
set_option maxRecDepth 100000 in
theorem t_X1_measureFamily_10 {l : Launch} {D : va_G} {cI cJ cM cS : ClassId} {n0 : Nat} {p : Program} {e : Env} {s : State} {m : MethodId} {args : Array Value} {below : List Frame} {meth : Method} {c : Code}  {Q : z_S → Prop} (hX : z_X D cI cJ cM cS p s m args c cX1_measureFamily 4 yX1_measureFamily.cls) (hY : z_Y s meth none)  : ∀ (n : Nat) (x2 : Int32) (x3 : Int32) (σ : z_S), w_X1_measureFamily_10  Q n x2 x3 σ → z_t D cI cJ cM cS n0 p l e rm_X1_measureFamily s m args below meth c 4 (MQ below (va_Qv Q (fun u t => z_Bq D cI cJ cM cS n0 u t) (z_Ab n0)) args s 0 0 (z_Ab n0)) 0 0 10 [(0, .ref (n0 + 29)), (1, .ref (n0 + 1)), (2, .int x2), (3, .int x3)] [] σ := by
  intro n
  induction n with
  | zero => intro _ _ _ hf; exact hf.elim
  | succ n ih10 =>
    intro x2 x3 σ hf
    have hf : wb_X1_measureFamily_10  Q (w_X1_measureFamily_10  Q n) x2 x3 σ := hf
    unfold wb_X1_measureFamily_10 at hf
    refine zt_iload_n hX 3 dX1_measureFamily_10 rfl rfl ?_
    refine zt_aload_n hX 1 dX1_measureFamily_11 rfl rfl ?_
    refine zt_get_X4 hX (by decide) (zE_1 _ _) 0 (by decide) kw_90 rfl rfl dX1_measureFamily_12 ?_
    refine zt_icmp_ge hX dX1_measureFamily_15 (tgt := 40) (by decide) (fun c4 => ?_) (fun c4 => ?_)
    · replace hf := z_pos hf c4
      exact zt_vret hX hY dX1_measureFamily_40 hf
    · replace hf := z_neg hf c4
      refine zt_aload_n hX 1 dX1_measureFamily_18 rfl rfl ?_
      refine zt_get_X4 hX (by decide) (zE_1 _ _) 4 (by decide) kw_100 rfl rfl dX1_measureFamily_19 ?_
      refine zt_iload_n hX 3 dX1_measureFamily_22 rfl rfl ?_
      obtain ⟨h5, hf⟩ := hf
      refine zt_iaload hX dX1_measureFamily_23 (by decide) rfl h5 ?_
      refine zt_iload_n hX 2 dX1_measureFamily_24 rfl rfl ?_
      refine zt_icmp_ne hX dX1_measureFamily_25 (tgt := 34) (by decide) (fun c6 => ?_) (fun c6 => ?_)
      · replace hf := z_neg hf c6
        exact zt_sub [0, 1, 2, 3] rfl (t_X1_measureFamily_34 hX hY ih10 _ _ _ hf)
      · replace hf := z_pos hf c6
        refine zt_aload_n hX 0 dX1_measureFamily_28 rfl rfl ?_
        refine zt_aload_n hX 1 dX1_measureFamily_29 rfl rfl ?_
        refine zt_iload_n hX 3 dX1_measureFamily_30 rfl rfl ?_
        refine zt_callvV hX hY (av := [.ref (n0 + 1), .int x3]) (c_X1_measure hf) dX1_measureFamily_31 rfl kw_429 kw_384 kw_385 kw_64 kw_386 ⟨rfl, rfl⟩ hy_X1_measure ⟨by decide, by decide⟩ ⟨by decide, by decide⟩ (Nat.le_of_ble_eq_true rfl) (by decide) (zE_29 _ _) rfl rfl (fun σ9 hf => ?_)
        exact zt_sub [0, 1, 2, 3] rfl (t_X1_measureFamily_34 hX hY ih10 _ _ _ hf)
set_option maxHeartbeats 4000000 in
set_option maxRecDepth 100000 in
theorem c_X1_measureFamily {l : Launch} {D : va_G} {cI cJ cM cS : ClassId} {n0 : Nat} {a2 : Int32} {σ : z_S} {Q : z_S → Prop} (hf : w_X1_measureFamily a2 σ Q) : z_cv l D cI cJ cM cS n0 yX1_measureFamily cX1_measureFamily 4 rm_X1_measureFamily 0 0 [.ref (n0 + 29), .ref (n0 + 1), .int a2] σ Q := by
  refine z_ofv (by decide +kernel) (Nat.le_of_ble_eq_true rfl) (fun p e s m args below meth c hX hY => ?_)
  unfold w_X1_measureFamily at hf
  refine zt_L (L' := [(0, .ref (n0 + 29)), (1, .ref (n0 + 1)), (2, .int a2)]) rfl ?_
  refine zt_aload_n hX 0 dX1_measureFamily_0 rfl rfl ?_
  refine zt_aload_n hX 1 dX1_measureFamily_1 rfl rfl ?_
  refine zt_iload_n hX 2 dX1_measureFamily_2 rfl rfl ?_
  refine zt_callvV hX hY (av := [.ref (n0 + 1), .int a2]) (c_X1_measure hf) dX1_measureFamily_3 rfl kw_429 kw_384 kw_385 kw_64 kw_386 ⟨rfl, rfl⟩ hy_X1_measure ⟨by decide, by decide⟩ ⟨by decide, by decide⟩ (Nat.le_of_ble_eq_true rfl) (by decide) (zE_29 _ _) rfl rfl (fun σ2 hf => ?_)
  refine zt_iload_n hX 2 dX1_measureFamily_6 rfl rfl ?_
  refine zt_iconst hX dX1_measureFamily_7 (v := (1 : Int32)) (by decide) ?_
  refine zt_iadd hX dX1_measureFamily_8 ?_
  refine zt_nmi (fun y3 e3 => ?_)
  replace hf := hf y3 e3
  refine zt_istore_n (L' := [(3, .int y3), (0, .ref (n0 + 29)), (1, .ref (n0 + 1)), (2, .int a2)]) hX dX1_measureFamily_9 rfl (by decide) rfl ?_
  exact zt_sub [1, 2, 3, 0] rfl (t_X1_measureFamily_10 hX hY 400 _ _ _ hf)

theorem dX1_lossIn_0 : decode cX1_lossIn 0 = .ok (.aload_n 0, 1) := by decide +kernel
theorem dX1_lossIn_1 : decode cX1_lossIn 1 = .ok (.getfield 11, 3) := by decide +kernel
theorem dX1_lossIn_4 : decode cX1_lossIn 4 = .ok (.iload_n 2, 1) := by decide +kernel
theorem dX1_lossIn_5 : decode cX1_lossIn 5 = .ok (.aaload, 1) := by decide +kernel
theorem dX1_lossIn_6 : decode cX1_lossIn 6 = .ok (.iload_n 3, 1) := by decide +kernel
theorem dX1_lossIn_7 : decode cX1_lossIn 7 = .ok (.iaload, 1) := by decide +kernel
theorem dX1_lossIn_8 : decode cX1_lossIn 8 = .ok (.istore 4, 2) := by decide +kernel
theorem dX1_lossIn_10 : decode cX1_lossIn 10 = .ok (.iload_n 2, 1) := by decide +kernel
theorem dX1_lossIn_11 : decode cX1_lossIn 11 = .ok (.iconst 1, 1) := by decide +kernel
theorem dX1_lossIn_12 : decode cX1_lossIn 12 = .ok (.iadd, 1) := by decide +kernel
theorem dX1_lossIn_13 : decode cX1_lossIn 13 = .ok (.istore 5, 2) := by decide +kernel
theorem dX1_lossIn_15 : decode cX1_lossIn 15 = .ok (.iload 5, 2) := by decide +kernel
theorem dX1_lossIn_17 : decode cX1_lossIn 17 = .ok (.aload_n 1, 1) := by decide +kernel
theorem dX1_lossIn_18 : decode cX1_lossIn 18 = .ok (.getfield 27, 3) := by decide +kernel
theorem dX1_lossIn_21 : decode cX1_lossIn 21 = .ok (.if_icmp .ge 34, 3) := by decide +kernel
theorem dX1_lossIn_24 : decode cX1_lossIn 24 = .ok (.aload_n 1, 1) := by decide +kernel
theorem dX1_lossIn_25 : decode cX1_lossIn 25 = .ok (.getfield 33, 3) := by decide +kernel
theorem dX1_lossIn_28 : decode cX1_lossIn 28 = .ok (.iload 5, 2) := by decide +kernel
theorem dX1_lossIn_30 : decode cX1_lossIn 30 = .ok (.iaload, 1) := by decide +kernel
theorem dX1_lossIn_31 : decode cX1_lossIn 31 = .ok (.iload_n 2, 1) := by decide +kernel
theorem dX1_lossIn_32 : decode cX1_lossIn 32 = .ok (.if_icmp .ne 17, 3) := by decide +kernel
theorem dX1_lossIn_35 : decode cX1_lossIn 35 = .ok (.iload 4, 2) := by decide +kernel
theorem dX1_lossIn_37 : decode cX1_lossIn 37 = .ok (.aload_n 0, 1) := by decide +kernel
theorem dX1_lossIn_38 : decode cX1_lossIn 38 = .ok (.getfield 11, 3) := by decide +kernel
theorem dX1_lossIn_41 : decode cX1_lossIn 41 = .ok (.iload 5, 2) := by decide +kernel
theorem dX1_lossIn_43 : decode cX1_lossIn 43 = .ok (.aaload, 1) := by decide +kernel
theorem dX1_lossIn_44 : decode cX1_lossIn 44 = .ok (.iload_n 3, 1) := by decide +kernel
theorem dX1_lossIn_45 : decode cX1_lossIn 45 = .ok (.iaload, 1) := by decide +kernel
theorem dX1_lossIn_46 : decode cX1_lossIn 46 = .ok (.isub, 1) := by decide +kernel
theorem dX1_lossIn_47 : decode cX1_lossIn 47 = .ok (.istore 4, 2) := by decide +kernel
theorem dX1_lossIn_49 : decode cX1_lossIn 49 = .ok (.iinc 5 1, 3) := by decide +kernel
theorem dX1_lossIn_52 : decode cX1_lossIn 52 = .ok (.goto (-37), 3) := by decide +kernel
theorem dX1_lossIn_55 : decode cX1_lossIn 55 = .ok (.iload 4, 2) := by decide +kernel
theorem dX1_lossIn_57 : decode cX1_lossIn 57 = .ok (.ireturn, 1) := by decide +kernel
abbrev rm_X1_lossIn : Room := { frames := 0, cells := 0, slots := 0, locals := 0 }
theorem hy_X1_lossIn : yX1_lossIn.cls ≠ "java/lang/invoke/MethodHandle" ∧ yX1_lossIn.cls ≠ "java/lang/invoke/VarHandle" ∧ (parseMethodDescriptor yX1_lossIn.desc).map (fun d => d.parameters.length) = some 3 := by decide +kernel
def w_X1_lossIn_49 (k15 : Int32 → Int32 → Int32 → Int32 → z_S → Prop) (Q : Int32 → z_S → Prop) (x2 : Int32) (x3 : Int32) (x4 : Int32) (x5 : Int32) (σ : z_S) : Prop :=
  ∀ y8 : Int32, y8 = (x5 + (1 : Int32)) → k15 x2 x3 x4 y8 σ
def wb_X1_lossIn_15  (Q : Int32 → z_S → Prop) (k15 : Int32 → Int32 → Int32 → Int32 → z_S → Prop) (x2 : Int32) (x3 : Int32) (x4 : Int32) (x5 : Int32) (σ : z_S) : Prop :=
  if (zg_i σ 1 0) ≤ x5 then (Q x4 σ) else (vp_in x5 10 ∧ if (zg_i σ 2 x5.toNatClampNeg) = x2 then (vp_in x5 10 ∧ vp_in x3 12 ∧ ∀ y11 : Int32, y11 = (x4 - (zg_i σ (31 + x5.toNatClampNeg) x3.toNatClampNeg)) → w_X1_lossIn_49 k15 Q x2 x3 y11 x5 σ) else (w_X1_lossIn_49 k15 Q x2 x3 x4 x5 σ))
def w_X1_lossIn_15  (Q : Int32 → z_S → Prop) : Nat → Int32 → Int32 → Int32 → Int32 → z_S → Prop
  | 0 => fun _ _ _ _ _ => False
  | n + 1 => wb_X1_lossIn_15  Q (w_X1_lossIn_15  Q n)
def w_X1_lossIn (a2 : Int32) (a3 : Int32) (σ : z_S) (Q : Int32 → z_S → Prop) : Prop :=
  vp_in a2 10 ∧ vp_in a3 12 ∧ ∀ y3 : Int32, y3 = (zg_i σ (31 + a2.toNatClampNeg) a3.toNatClampNeg) → ∀ y4 : Int32, y4 = (a2 + (1 : Int32)) → w_X1_lossIn_15 Q 400 a2 a3 y3 y4 σ
set_option maxHeartbeats 4000000 in
set_option maxRecDepth 100000 in
theorem t_X1_lossIn_49 {l : Launch} {D : va_G} {cI cJ cM cS : ClassId} {n0 : Nat} {p : Program} {e : Env} {s : State} {m : MethodId} {args : Array Value} {below : List Frame} {meth : Method} {c : Code} {k15 : Int32 → Int32 → Int32 → Int32 → z_S → Prop} {Q : Int32 → z_S → Prop} (hX : z_X D cI cJ cM cS p s m args c cX1_lossIn 6 yX1_lossIn.cls) (hY : z_Y s meth (some .int)) (hk15 : ∀ (x2 : Int32) (x3 : Int32) (x4 : Int32) (x5 : Int32) (σ : z_S), k15 x2 x3 x4 x5 σ → z_t D cI cJ cM cS n0 p l e rm_X1_lossIn s m args below meth c 6 (MQ below (va_Qi Q (fun u t => z_Bq D cI cJ cM cS n0 u t) (z_Ab n0)) args s 0 0 (z_Ab n0)) 0 0 15 [(0, .ref (n0 + 29)), (1, .ref (n0 + 1)), (2, .int x2), (3, .int x3), (4, .int x4), (5, .int x5)] [] σ) (x2 : Int32) (x3 : Int32) (x4 : Int32) (x5 : Int32) (σ : z_S) (hf : w_X1_lossIn_49 k15 Q x2 x3 x4 x5 σ) : z_t D cI cJ cM cS n0 p l e rm_X1_lossIn s m args below meth c 6 (MQ below (va_Qi Q (fun u t => z_Bq D cI cJ cM cS n0 u t) (z_Ab n0)) args s 0 0 (z_Ab n0)) 0 0 49 [(0, .ref (n0 + 29)), (1, .ref (n0 + 1)), (2, .int x2), (3, .int x3), (4, .int x4), (5, .int x5)] [] σ := by
  unfold w_X1_lossIn_49 at hf
  obtain ⟨y8, e8⟩ : ∃ y : Int32, y = (x5 + (1 : Int32)) := ⟨_, rfl⟩
  replace hf := hf y8 e8
  refine zt_iinc (L' := [(5, .int y8), (0, .ref (n0 + 29)), (1, .ref (n0 + 1)), (2, .int x2), (3, .int x3), (4, .int x4)]) hX 5 dX1_lossIn_49 rfl (v := y8) (by rw [e8]; rfl) (by decide) rfl ?_
  refine zt_goto hX dX1_lossIn_52 (tgt := 15) (by decide) ?_
  exact zt_sub [1, 2, 3, 4, 5, 0] rfl (hk15 _ _ _ _ _ hf)
set_option maxHeartbeats 4000000 in
set_option maxRecDepth 100000 in
theorem t_X1_lossIn_15 {l : Launch} {D : va_G} {cI cJ cM cS : ClassId} {n0 : Nat} {p : Program} {e : Env} {s : State} {m : MethodId} {args : Array Value} {below : List Frame} {meth : Method} {c : Code}  {Q : Int32 → z_S → Prop} (hX : z_X D cI cJ cM cS p s m args c cX1_lossIn 6 yX1_lossIn.cls) (hY : z_Y s meth (some .int))  : ∀ (n : Nat) (x2 : Int32) (x3 : Int32) (x4 : Int32) (x5 : Int32) (σ : z_S), w_X1_lossIn_15  Q n x2 x3 x4 x5 σ → z_t D cI cJ cM cS n0 p l e rm_X1_lossIn s m args below meth c 6 (MQ below (va_Qi Q (fun u t => z_Bq D cI cJ cM cS n0 u t) (z_Ab n0)) args s 0 0 (z_Ab n0)) 0 0 15 [(0, .ref (n0 + 29)), (1, .ref (n0 + 1)), (2, .int x2), (3, .int x3), (4, .int x4), (5, .int x5)] [] σ := by
  intro n
  induction n with
  | zero => intro _ _ _ _ _ hf; exact hf.elim
  | succ n ih15 =>
    intro x2 x3 x4 x5 σ hf
    have hf : wb_X1_lossIn_15  Q (w_X1_lossIn_15  Q n) x2 x3 x4 x5 σ := hf
    unfold wb_X1_lossIn_15 at hf
    refine zt_iload hX 5 dX1_lossIn_15 rfl ?_
    refine zt_aload_n hX 1 dX1_lossIn_17 rfl rfl ?_
    refine zt_get_X4 hX (by decide) (zE_1 _ _) 0 (by decide) kw_90 rfl rfl dX1_lossIn_18 ?_
    refine zt_icmp_ge hX dX1_lossIn_21 (tgt := 55) (by decide) (fun c5 => ?_) (fun c5 => ?_)
    · replace hf := z_pos hf c5
      refine zt_iload hX 4 dX1_lossIn_55 rfl ?_
      exact zt_iret hX hY dX1_lossIn_57 hf
    · replace hf := z_neg hf c5
      refine zt_aload_n hX 1 dX1_lossIn_24 rfl rfl ?_
      refine zt_get_X4 hX (by decide) (zE_1 _ _) 4 (by decide) kw_100 rfl rfl dX1_lossIn_25 ?_
      refine zt_iload hX 5 dX1_lossIn_28 rfl ?_
      obtain ⟨h6, hf⟩ := hf
      refine zt_iaload hX dX1_lossIn_30 (by decide) rfl h6 ?_
      refine zt_iload_n hX 2 dX1_lossIn_31 rfl rfl ?_
      refine zt_icmp_ne hX dX1_lossIn_32 (tgt := 49) (by decide) (fun c7 => ?_) (fun c7 => ?_)
      · replace hf := z_neg hf c7
        exact zt_sub [0, 1, 2, 3, 4, 5] rfl (t_X1_lossIn_49 hX hY ih15 _ _ _ _ _ hf)
      · replace hf := z_pos hf c7
        refine zt_iload hX 4 dX1_lossIn_35 rfl ?_
        refine zt_aload_n hX 0 dX1_lossIn_37 rfl rfl ?_
        refine zt_get_X1 hX (by decide) (zE_29 _ _) 0 (by decide) kw_166 rfl rfl dX1_lossIn_38 ?_
        refine zt_iload hX 5 dX1_lossIn_41 rfl ?_
        obtain ⟨h9, hf⟩ := hf
        refine zt_aaloadM hX dX1_lossIn_43 (by decide) rfl (k1 := 31) rfl h9 ?_
        refine zt_iload_n hX 3 dX1_lossIn_44 rfl rfl ?_
        obtain ⟨h10, hf⟩ := hf
        refine zt_iaload hX dX1_lossIn_45 (z_row31 (z_lt h9)) (z_sh31 (z_lt h9)) h10 ?_
        refine zt_isub hX dX1_lossIn_46 ?_
        refine zt_nmi (fun y11 e11 => ?_)
        replace hf := hf y11 e11
        refine zt_istore (L' := [(4, .int y11), (0, .ref (n0 + 29)), (1, .ref (n0 + 1)), (2, .int x2), (3, .int x3), (5, .int x5)]) hX dX1_lossIn_47 (by decide) rfl ?_
        exact zt_sub [1, 2, 3, 4, 0, 5] rfl (t_X1_lossIn_49 hX hY ih15 _ _ _ _ _ hf)
set_option maxHeartbeats 4000000 in
set_option maxRecDepth 100000 in
theorem c_X1_lossIn {l : Launch} {D : va_G} {cI cJ cM cS : ClassId} {n0 : Nat} {a2 : Int32} {a3 : Int32} {σ : z_S} {Q : Int32 → z_S → Prop} (hf : w_X1_lossIn a2 a3 σ Q) : z_ci l D cI cJ cM cS n0 yX1_lossIn cX1_lossIn 6 .int rm_X1_lossIn 0 0 [.ref (n0 + 29), .ref (n0 + 1), .int a2, .int a3] σ Q := by
  refine z_ofi (by decide +kernel) (Nat.le_of_ble_eq_true rfl) (fun p e s m args below meth c hX hY => ?_)
  unfold w_X1_lossIn at hf
  refine zt_L (L' := [(0, .ref (n0 + 29)), (1, .ref (n0 + 1)), (2, .int a2), (3, .int a3)]) rfl ?_
  refine zt_aload_n hX 0 dX1_lossIn_0 rfl rfl ?_
  refine zt_get_X1 hX (by decide) (zE_29 _ _) 0 (by decide) kw_166 rfl rfl dX1_lossIn_1 ?_
  refine zt_iload_n hX 2 dX1_lossIn_4 rfl rfl ?_
  obtain ⟨h1, hf⟩ := hf
  refine zt_aaloadM hX dX1_lossIn_5 (by decide) rfl (k1 := 31) rfl h1 ?_
  refine zt_iload_n hX 3 dX1_lossIn_6 rfl rfl ?_
  obtain ⟨h2, hf⟩ := hf
  refine zt_iaload hX dX1_lossIn_7 (z_row31 (z_lt h1)) (z_sh31 (z_lt h1)) h2 ?_
  refine zt_nmi (fun y3 e3 => ?_)
  replace hf := hf y3 e3
  refine zt_istore (L' := [(4, .int y3), (0, .ref (n0 + 29)), (1, .ref (n0 + 1)), (2, .int a2), (3, .int a3)]) hX dX1_lossIn_8 (by decide) rfl ?_
  refine zt_iload_n hX 3 dX1_lossIn_10 rfl rfl ?_
  refine zt_iconst hX dX1_lossIn_11 (v := (1 : Int32)) (by decide) ?_
  refine zt_iadd hX dX1_lossIn_12 ?_
  refine zt_nmi (fun y4 e4 => ?_)
  replace hf := hf y4 e4
  refine zt_istore (L' := [(5, .int y4), (4, .int y3), (0, .ref (n0 + 29)), (1, .ref (n0 + 1)), (2, .int a2), (3, .int a3)]) hX dX1_lossIn_13 (by decide) rfl ?_
  exact zt_sub [2, 3, 4, 5, 1, 0] rfl (t_X1_lossIn_15 hX hY 400 _ _ _ _ _ hf)

theorem dX1_balanceIn_0 : decode cX1_balanceIn 0 = .ok (.aload_n 0, 1) := by decide +kernel
theorem dX1_balanceIn_1 : decode cX1_balanceIn 1 = .ok (.aload_n 1, 1) := by decide +kernel
theorem dX1_balanceIn_2 : decode cX1_balanceIn 2 = .ok (.iload_n 2, 1) := by decide +kernel
theorem dX1_balanceIn_3 : decode cX1_balanceIn 3 = .ok (.iload_n 3, 1) := by decide +kernel
theorem dX1_balanceIn_4 : decode cX1_balanceIn 4 = .ok (.invokevirtual 71, 3) := by decide +kernel
theorem dX1_balanceIn_7 : decode cX1_balanceIn 7 = .ok (.istore 4, 2) := by decide +kernel
theorem dX1_balanceIn_9 : decode cX1_balanceIn 9 = .ok (.iload 4, 2) := by decide +kernel
theorem dX1_balanceIn_11 : decode cX1_balanceIn 11 = .ok (.ifCond .ge 5, 3) := by decide +kernel
theorem dX1_balanceIn_14 : decode cX1_balanceIn 14 = .ok (.iconst 1, 1) := by decide +kernel
theorem dX1_balanceIn_15 : decode cX1_balanceIn 15 = .ok (.ireturn, 1) := by decide +kernel
theorem dX1_balanceIn_16 : decode cX1_balanceIn 16 = .ok (.iload 4, 2) := by decide +kernel
theorem dX1_balanceIn_18 : decode cX1_balanceIn 18 = .ok (.i2l, 1) := by decide +kernel
theorem dX1_balanceIn_19 : decode cX1_balanceIn 19 = .ok (.ldc2_w 75, 3) := by decide +kernel
theorem dX1_balanceIn_22 : decode cX1_balanceIn 22 = .ok (.lmul, 1) := by decide +kernel
theorem dX1_balanceIn_23 : decode cX1_balanceIn 23 = .ok (.aload_n 0, 1) := by decide +kernel
theorem dX1_balanceIn_24 : decode cX1_balanceIn 24 = .ok (.getfield 11, 3) := by decide +kernel
theorem dX1_balanceIn_27 : decode cX1_balanceIn 27 = .ok (.iload_n 2, 1) := by decide +kernel
theorem dX1_balanceIn_28 : decode cX1_balanceIn 28 = .ok (.aaload, 1) := by decide +kernel
theorem dX1_balanceIn_29 : decode cX1_balanceIn 29 = .ok (.iload_n 3, 1) := by decide +kernel
theorem dX1_balanceIn_30 : decode cX1_balanceIn 30 = .ok (.iaload, 1) := by decide +kernel
theorem dX1_balanceIn_31 : decode cX1_balanceIn 31 = .ok (.i2l, 1) := by decide +kernel
theorem dX1_balanceIn_32 : decode cX1_balanceIn 32 = .ok (.aload_n 1, 1) := by decide +kernel
theorem dX1_balanceIn_33 : decode cX1_balanceIn 33 = .ok (.getfield 77, 3) := by decide +kernel
theorem dX1_balanceIn_36 : decode cX1_balanceIn 36 = .ok (.i2l, 1) := by decide +kernel
theorem dX1_balanceIn_37 : decode cX1_balanceIn 37 = .ok (.lmul, 1) := by decide +kernel
theorem dX1_balanceIn_38 : decode cX1_balanceIn 38 = .ok (.lcmp, 1) := by decide +kernel
theorem dX1_balanceIn_39 : decode cX1_balanceIn 39 = .ok (.ifCond .le 7, 3) := by decide +kernel
theorem dX1_balanceIn_42 : decode cX1_balanceIn 42 = .ok (.iconst 2, 1) := by decide +kernel
theorem dX1_balanceIn_43 : decode cX1_balanceIn 43 = .ok (.goto 4, 3) := by decide +kernel
theorem dX1_balanceIn_46 : decode cX1_balanceIn 46 = .ok (.iconst 0, 1) := by decide +kernel
theorem dX1_balanceIn_47 : decode cX1_balanceIn 47 = .ok (.ireturn, 1) := by decide +kernel
abbrev rm_X1_balanceIn : Room := { frames := 1, cells := 0, slots := 0, locals := 25 }
theorem hy_X1_balanceIn : yX1_balanceIn.cls ≠ "java/lang/invoke/MethodHandle" ∧ yX1_balanceIn.cls ≠ "java/lang/invoke/VarHandle" ∧ (parseMethodDescriptor yX1_balanceIn.desc).map (fun d => d.parameters.length) = some 3 := by decide +kernel
def w_X1_balanceIn (a2 : Int32) (a3 : Int32) (σ : z_S) (Q : Int32 → z_S → Prop) : Prop :=
  w_X1_lossIn a2 a3 σ (fun r1 σ2 => if 0 ≤ r1 then (vp_in a2 10 ∧ vp_in a3 12 ∧ if (lg_cmp (r1.toInt64 * (1000 : Int64)) (((zg_i σ2 (31 + a2.toNatClampNeg) a3.toNatClampNeg).toInt64) * ((zg_i σ2 1 2).toInt64))) ≤ 0 then (Q (0 : Int32) σ2) else (Q (2 : Int32) σ2)) else (Q (1 : Int32) σ2))
set_option maxHeartbeats 4000000 in
set_option maxRecDepth 100000 in
theorem c_X1_balanceIn {l : Launch} {D : va_G} {cI cJ cM cS : ClassId} {n0 : Nat} {a2 : Int32} {a3 : Int32} {σ : z_S} {Q : Int32 → z_S → Prop} (hf : w_X1_balanceIn a2 a3 σ Q) : z_ci l D cI cJ cM cS n0 yX1_balanceIn cX1_balanceIn 5 .int rm_X1_balanceIn 0 0 [.ref (n0 + 29), .ref (n0 + 1), .int a2, .int a3] σ Q := by
  refine z_ofi (by decide +kernel) (Nat.le_of_ble_eq_true rfl) (fun p e s m args below meth c hX hY => ?_)
  unfold w_X1_balanceIn at hf
  refine zt_L (L' := [(0, .ref (n0 + 29)), (1, .ref (n0 + 1)), (2, .int a2), (3, .int a3)]) rfl ?_
  refine zt_aload_n hX 0 dX1_balanceIn_0 rfl rfl ?_
  refine zt_aload_n hX 1 dX1_balanceIn_1 rfl rfl ?_
  refine zt_iload_n hX 2 dX1_balanceIn_2 rfl rfl ?_
  refine zt_iload_n hX 3 dX1_balanceIn_3 rfl rfl ?_
  refine zt_calliV hX hY (av := [.ref (n0 + 1), .int a2, .int a3]) (c_X1_lossIn hf) dX1_balanceIn_4 rfl kw_482 kw_431 kw_432 kw_64 kw_433 ⟨rfl, rfl⟩ hy_X1_lossIn ⟨by decide, by decide⟩ ⟨by decide, by decide⟩ (Nat.le_of_ble_eq_true rfl) (by decide) (zE_29 _ _) rfl rfl (fun r1 σ2 hf => ?_)
  refine zt_istore (L' := [(4, .int r1), (0, .ref (n0 + 29)), (1, .ref (n0 + 1)), (2, .int a2), (3, .int a3)]) hX dX1_balanceIn_7 (by decide) rfl ?_
  refine zt_iload hX 0 dX1_balanceIn_9 rfl ?_
  refine zt_if_ge hX dX1_balanceIn_11 (tgt := 16) (by decide) (fun c3 => ?_) (fun c3 => ?_)
  · replace hf := z_pos hf c3
    refine zt_iload hX 0 dX1_balanceIn_16 rfl ?_
    refine zt_i2l hX dX1_balanceIn_18 ?_
    refine zt_ldc2 hX dX1_balanceIn_19 kw_483 ?_
    refine zt_lmul hX dX1_balanceIn_22 ?_
    refine zt_aload_n hX 1 dX1_balanceIn_23 rfl rfl ?_
    refine zt_get_X1 hX (by decide) (zE_29 _ _) 0 (by decide) kw_166 rfl rfl dX1_balanceIn_24 ?_
    refine zt_iload_n hX 3 dX1_balanceIn_27 rfl rfl ?_
    obtain ⟨h4, hf⟩ := hf
    refine zt_aaloadM hX dX1_balanceIn_28 (by decide) rfl (k1 := 31) rfl h4 ?_
    refine zt_iload_n hX 4 dX1_balanceIn_29 rfl rfl ?_
    obtain ⟨h5, hf⟩ := hf
    refine zt_iaload hX dX1_balanceIn_30 (z_row31 (z_lt h4)) (z_sh31 (z_lt h4)) h5 ?_
    refine zt_i2l hX dX1_balanceIn_31 ?_
    refine zt_aload_n hX 2 dX1_balanceIn_32 rfl rfl ?_
    refine zt_get_X4 hX (by decide) (zE_1 _ _) 2 (by decide) kw_96 rfl rfl dX1_balanceIn_33 ?_
    refine zt_i2l hX dX1_balanceIn_36 ?_
    refine zt_lmul hX dX1_balanceIn_37 ?_
    refine zt_lcmp hX dX1_balanceIn_38 ?_
    refine zt_if_le hX dX1_balanceIn_39 (tgt := 46) (by decide) (fun c6 => ?_) (fun c6 => ?_)
    · replace hf := z_pos hf c6
      refine zt_iconst hX dX1_balanceIn_46 (v := (0 : Int32)) (by decide) ?_
      exact zt_iret hX hY dX1_balanceIn_47 hf
    · replace hf := z_neg hf c6
      refine zt_iconst hX dX1_balanceIn_42 (v := (2 : Int32)) (by decide) ?_
      refine zt_goto hX dX1_balanceIn_43 (tgt := 47) (by decide) ?_
      exact zt_iret hX hY dX1_balanceIn_47 hf
  · replace hf := z_neg hf c3
    refine zt_iconst hX dX1_balanceIn_14 (v := (1 : Int32)) (by decide) ?_
    exact zt_iret hX hY dX1_balanceIn_15 hf
