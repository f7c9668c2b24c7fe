theorem dX5_meters_0 : decode cX5_meters 0 = .ok (.aload_n 0, 1) := by decide +kernel
theorem dX5_meters_1 : decode cX5_meters 1 = .ok (.getfield 10, 3) := by decide +kernel
theorem dX5_meters_4 : decode cX5_meters 4 = .ok (.getfield 44, 3) := by decide +kernel
theorem dX5_meters_7 : decode cX5_meters 7 = .ok (.ireturn, 1) := by decide +kernel
abbrev rm_X5_meters : Room := { frames := 0, cells := 0, slots := 0, locals := 0 }
theorem hy_X5_meters : yX5_meters.cls ≠ "java/lang/invoke/MethodHandle" ∧ yX5_meters.cls ≠ "java/lang/invoke/VarHandle" ∧ (parseMethodDescriptor yX5_meters.desc).map (fun d => d.parameters.length) = some 0 := by decide +kernel
def w_X5_meters  (σ : z_S) (Q : Int32 → z_S → Prop) : Prop :=
  Q (zg_i σ 1 0) σ
set_option maxHeartbeats 4000000 in
set_option maxRecDepth 100000 in
theorem c_X5_meters {l : Launch} {D : va_G} {cI cJ cM cS : ClassId} {n0 : Nat}  {σ : z_S} {Q : Int32 → z_S → Prop} (hf : w_X5_meters  σ Q) : z_ci l D cI cJ cM cS n0 yX5_meters cX5_meters 1 .int rm_X5_meters 0 0 [.ref (n0 + 0)] σ Q := by
  refine z_ofi (by decide +kernel) (Nat.le_of_ble_eq_true rfl) (fun p e s m args below meth c hX hY => ?_)
  unfold w_X5_meters at hf
  refine zt_L (L' := [(0, .ref (n0 + 0))]) rfl ?_
  refine zt_aload_n hX 0 dX5_meters_0 rfl rfl ?_
  refine zt_get_X5 hX (by decide) (zE_0 _ _) 0 (by decide) kw_234 rfl rfl dX5_meters_1 ?_
  refine zt_get_X4 hX (by decide) (zE_1 _ _) 0 (by decide) kw_88 rfl rfl dX5_meters_4 ?_
  exact zt_iret hX hY dX5_meters_7 hf

theorem dX5_meter_0 : decode cX5_meter 0 = .ok (.aload_n 0, 1) := by decide +kernel
theorem dX5_meter_1 : decode cX5_meter 1 = .ok (.getfield 10, 3) := by decide +kernel
theorem dX5_meter_4 : decode cX5_meter 4 = .ok (.iload_n 1, 1) := by decide +kernel
theorem dX5_meter_5 : decode cX5_meter 5 = .ok (.invokevirtual 48, 3) := by decide +kernel
theorem dX5_meter_8 : decode cX5_meter 8 = .ok (.ifCond .ne 6, 3) := by decide +kernel
theorem dX5_meter_11 : decode cX5_meter 11 = .ok (.ldc 52, 2) := by decide +kernel
theorem dX5_meter_13 : decode cX5_meter 13 = .ok (.ireturn, 1) := by decide +kernel
theorem dX5_meter_14 : decode cX5_meter 14 = .ok (.iload_n 2, 1) := by decide +kernel
theorem dX5_meter_15 : decode cX5_meter 15 = .ok (.tableswitch 109 0 6 #[41, 51, 61, 71, 81, 91, 100], 41) := by decide +kernel
theorem dX5_meter_56 : decode cX5_meter 56 = .ok (.aload_n 0, 1) := by decide +kernel
theorem dX5_meter_57 : decode cX5_meter 57 = .ok (.getfield 10, 3) := by decide +kernel
theorem dX5_meter_60 : decode cX5_meter 60 = .ok (.getfield 91, 3) := by decide +kernel
theorem dX5_meter_63 : decode cX5_meter 63 = .ok (.iload_n 1, 1) := by decide +kernel
theorem dX5_meter_64 : decode cX5_meter 64 = .ok (.iaload, 1) := by decide +kernel
theorem dX5_meter_65 : decode cX5_meter 65 = .ok (.ireturn, 1) := by decide +kernel
theorem dX5_meter_66 : decode cX5_meter 66 = .ok (.aload_n 0, 1) := by decide +kernel
theorem dX5_meter_67 : decode cX5_meter 67 = .ok (.getfield 10, 3) := by decide +kernel
theorem dX5_meter_70 : decode cX5_meter 70 = .ok (.getfield 67, 3) := by decide +kernel
theorem dX5_meter_73 : decode cX5_meter 73 = .ok (.iload_n 1, 1) := by decide +kernel
theorem dX5_meter_74 : decode cX5_meter 74 = .ok (.iaload, 1) := by decide +kernel
theorem dX5_meter_75 : decode cX5_meter 75 = .ok (.ireturn, 1) := by decide +kernel
theorem dX5_meter_76 : decode cX5_meter 76 = .ok (.aload_n 0, 1) := by decide +kernel
theorem dX5_meter_77 : decode cX5_meter 77 = .ok (.getfield 10, 3) := by decide +kernel
theorem dX5_meter_80 : decode cX5_meter 80 = .ok (.getfield 75, 3) := by decide +kernel
theorem dX5_meter_83 : decode cX5_meter 83 = .ok (.iload_n 1, 1) := by decide +kernel
theorem dX5_meter_84 : decode cX5_meter 84 = .ok (.iaload, 1) := by decide +kernel
theorem dX5_meter_85 : decode cX5_meter 85 = .ok (.ireturn, 1) := by decide +kernel
theorem dX5_meter_86 : decode cX5_meter 86 = .ok (.aload_n 0, 1) := by decide +kernel
theorem dX5_meter_87 : decode cX5_meter 87 = .ok (.getfield 10, 3) := by decide +kernel
theorem dX5_meter_90 : decode cX5_meter 90 = .ok (.getfield 82, 3) := by decide +kernel
theorem dX5_meter_93 : decode cX5_meter 93 = .ok (.iload_n 1, 1) := by decide +kernel
theorem dX5_meter_94 : decode cX5_meter 94 = .ok (.iaload, 1) := by decide +kernel
theorem dX5_meter_95 : decode cX5_meter 95 = .ok (.ireturn, 1) := by decide +kernel
theorem dX5_meter_96 : decode cX5_meter 96 = .ok (.aload_n 0, 1) := by decide +kernel
theorem dX5_meter_97 : decode cX5_meter 97 = .ok (.getfield 10, 3) := by decide +kernel
theorem dX5_meter_100 : decode cX5_meter 100 = .ok (.getfield 71, 3) := by decide +kernel
theorem dX5_meter_103 : decode cX5_meter 103 = .ok (.iload_n 1, 1) := by decide +kernel
theorem dX5_meter_104 : decode cX5_meter 104 = .ok (.iaload, 1) := by decide +kernel
theorem dX5_meter_105 : decode cX5_meter 105 = .ok (.ireturn, 1) := by decide +kernel
theorem dX5_meter_106 : decode cX5_meter 106 = .ok (.aload_n 0, 1) := by decide +kernel
theorem dX5_meter_107 : decode cX5_meter 107 = .ok (.getfield 10, 3) := by decide +kernel
theorem dX5_meter_110 : decode cX5_meter 110 = .ok (.iload_n 1, 1) := by decide +kernel
theorem dX5_meter_111 : decode cX5_meter 111 = .ok (.invokevirtual 94, 3) := by decide +kernel
theorem dX5_meter_114 : decode cX5_meter 114 = .ok (.ireturn, 1) := by decide +kernel
theorem dX5_meter_115 : decode cX5_meter 115 = .ok (.aload_n 0, 1) := by decide +kernel
theorem dX5_meter_116 : decode cX5_meter 116 = .ok (.getfield 10, 3) := by decide +kernel
theorem dX5_meter_119 : decode cX5_meter 119 = .ok (.iload_n 1, 1) := by decide +kernel
theorem dX5_meter_120 : decode cX5_meter 120 = .ok (.invokevirtual 97, 3) := by decide +kernel
theorem dX5_meter_123 : decode cX5_meter 123 = .ok (.ireturn, 1) := by decide +kernel
theorem dX5_meter_124 : decode cX5_meter 124 = .ok (.ldc 66, 2) := by decide +kernel
theorem dX5_meter_126 : decode cX5_meter 126 = .ok (.ireturn, 1) := by decide +kernel
abbrev rm_X5_meter : Room := { frames := 2, cells := 0, slots := 0, locals := 44 }
theorem hy_X5_meter : yX5_meter.cls ≠ "java/lang/invoke/MethodHandle" ∧ yX5_meter.cls ≠ "java/lang/invoke/VarHandle" ∧ (parseMethodDescriptor yX5_meter.desc).map (fun d => d.parameters.length) = some 2 := by decide +kernel
def w_X5_meter (a1 : Int32) (a2 : Int32) (σ : z_S) (Q : Int32 → z_S → Prop) : Prop :=
  w_X4_has a1 σ (fun r1 σ2 => if r1 = 0 then (Q (-2000000001 : Int32) σ2) else (if a2 = (0 : Int32) then (vp_in a1 10 ∧ Q (zg_i σ2 2 a1.toNatClampNeg) σ2) else (if a2 = (1 : Int32) then (vp_in a1 10 ∧ Q (zg_i σ2 3 a1.toNatClampNeg) σ2) else (if a2 = (2 : Int32) then (vp_in a1 10 ∧ Q (zg_i σ2 4 a1.toNatClampNeg) σ2) else (if a2 = (3 : Int32) then (vp_in a1 10 ∧ Q (zg_i σ2 5 a1.toNatClampNeg) σ2) else (if a2 = (4 : Int32) then (vp_in a1 10 ∧ Q (zg_i σ2 6 a1.toNatClampNeg) σ2) else (if a2 = (5 : Int32) then (w_X4_countChildren a1 σ2 (fun r15 σ16 => Q r15 σ16)) else (if a2 = (6 : Int32) then (w_X4_countAbove a1 σ2 (fun r18 σ19 => Q r18 σ19)) else (Q (-2000000002 : Int32) σ2)))))))))
set_option maxHeartbeats 4000000 in
set_option maxRecDepth 100000 in
theorem c_X5_meter {l : Launch} {D : va_G} {cI cJ cM cS : ClassId} {n0 : Nat} {a1 : Int32} {a2 : Int32} {σ : z_S} {Q : Int32 → z_S → Prop} (hf : w_X5_meter a1 a2 σ Q) : z_ci l D cI cJ cM cS n0 yX5_meter cX5_meter 3 .int rm_X5_meter 0 0 [.ref (n0 + 0), .int a1, .int a2] σ Q := by
  refine z_ofi (by decide +kernel) (Nat.le_of_ble_eq_true rfl) (fun p e s m args below meth c hX hY => ?_)
  unfold w_X5_meter at hf
  refine zt_L (L' := [(0, .ref (n0 + 0)), (1, .int a1), (2, .int a2)]) rfl ?_
  refine zt_aload_n hX 0 dX5_meter_0 rfl rfl ?_
  refine zt_get_X5 hX (by decide) (zE_0 _ _) 0 (by decide) kw_234 rfl rfl dX5_meter_1 ?_
  refine zt_iload_n hX 1 dX5_meter_4 rfl rfl ?_
  refine zt_calliV hX hY (av := [.int a1]) (c_X4_has hf) dX5_meter_5 rfl kw_254 kw_255 kw_256 kw_62 kw_257 ⟨rfl, rfl⟩ hy_X4_has ⟨by decide, by decide⟩ ⟨by decide, by decide⟩ (Nat.le_of_ble_eq_true rfl) (by decide) (zE_1 _ _) rfl rfl (fun r1 σ2 hf => ?_)
  refine zt_if_ne hX dX5_meter_8 (tgt := 14) (by decide) (fun c3 => ?_) (fun c3 => ?_)
  · replace hf := z_neg hf c3
    refine zt_iload_n hX 2 dX5_meter_14 rfl rfl ?_
    by_cases c4 : a2 = (0 : Int32)
    · replace hf := z_pos hf c4
      refine zt_tabIn hX dX5_meter_15 (by rw [c4]; decide) (by rw [c4]; decide) (off := 41) (by rw [c4]; rfl) (tgt := 56) (by decide) ?_
      refine zt_aload_n hX 0 dX5_meter_56 rfl rfl ?_
      refine zt_get_X5 hX (by decide) (zE_0 _ _) 0 (by decide) kw_234 rfl rfl dX5_meter_57 ?_
      refine zt_get_X4 hX (by decide) (zE_1 _ _) 4 (by decide) kw_102 rfl rfl dX5_meter_60 ?_
      refine zt_iload_n hX 1 dX5_meter_63 rfl rfl ?_
      obtain ⟨h5, hf⟩ := hf
      refine zt_iaload hX dX5_meter_64 (by decide) rfl h5 ?_
      exact zt_iret hX hY dX5_meter_65 hf
    replace hf := z_neg hf c4
    by_cases c6 : a2 = (1 : Int32)
    · replace hf := z_pos hf c6
      refine zt_tabIn hX dX5_meter_15 (by rw [c6]; decide) (by rw [c6]; decide) (off := 51) (by rw [c6]; rfl) (tgt := 66) (by decide) ?_
      refine zt_aload_n hX 0 dX5_meter_66 rfl rfl ?_
      refine zt_get_X5 hX (by decide) (zE_0 _ _) 0 (by decide) kw_234 rfl rfl dX5_meter_67 ?_
      refine zt_get_X4 hX (by decide) (zE_1 _ _) 5 (by decide) kw_105 rfl rfl dX5_meter_70 ?_
      refine zt_iload_n hX 1 dX5_meter_73 rfl rfl ?_
      obtain ⟨h7, hf⟩ := hf
      refine zt_iaload hX dX5_meter_74 (by decide) rfl h7 ?_
      exact zt_iret hX hY dX5_meter_75 hf
    replace hf := z_neg hf c6
    by_cases c8 : a2 = (2 : Int32)
    · replace hf := z_pos hf c8
      refine zt_tabIn hX dX5_meter_15 (by rw [c8]; decide) (by rw [c8]; decide) (off := 61) (by rw [c8]; rfl) (tgt := 76) (by decide) ?_
      refine zt_aload_n hX 0 dX5_meter_76 rfl rfl ?_
      refine zt_get_X5 hX (by decide) (zE_0 _ _) 0 (by decide) kw_234 rfl rfl dX5_meter_77 ?_
      refine zt_get_X4 hX (by decide) (zE_1 _ _) 6 (by decide) kw_107 rfl rfl dX5_meter_80 ?_
      refine zt_iload_n hX 1 dX5_meter_83 rfl rfl ?_
      obtain ⟨h9, hf⟩ := hf
      refine zt_iaload hX dX5_meter_84 (by decide) rfl h9 ?_
      exact zt_iret hX hY dX5_meter_85 hf
    replace hf := z_neg hf c8
    by_cases c10 : a2 = (3 : Int32)
    · replace hf := z_pos hf c10
      refine zt_tabIn hX dX5_meter_15 (by rw [c10]; decide) (by rw [c10]; decide) (off := 71) (by rw [c10]; rfl) (tgt := 86) (by decide) ?_
      refine zt_aload_n hX 0 dX5_meter_86 rfl rfl ?_
      refine zt_get_X5 hX (by decide) (zE_0 _ _) 0 (by decide) kw_234 rfl rfl dX5_meter_87 ?_
      refine zt_get_X4 hX (by decide) (zE_1 _ _) 7 (by decide) kw_110 rfl rfl dX5_meter_90 ?_
      refine zt_iload_n hX 1 dX5_meter_93 rfl rfl ?_
      obtain ⟨h11, hf⟩ := hf
      refine zt_iaload hX dX5_meter_94 (by decide) rfl h11 ?_
      exact zt_iret hX hY dX5_meter_95 hf
    replace hf := z_neg hf c10
    by_cases c12 : a2 = (4 : Int32)
    · replace hf := z_pos hf c12
      refine zt_tabIn hX dX5_meter_15 (by rw [c12]; decide) (by rw [c12]; decide) (off := 81) (by rw [c12]; rfl) (tgt := 96) (by decide) ?_
      refine zt_aload_n hX 0 dX5_meter_96 rfl rfl ?_
      refine zt_get_X5 hX (by decide) (zE_0 _ _) 0 (by decide) kw_234 rfl rfl dX5_meter_97 ?_
      refine zt_get_X4 hX (by decide) (zE_1 _ _) 8 (by decide) kw_112 rfl rfl dX5_meter_100 ?_
      refine zt_iload_n hX 1 dX5_meter_103 rfl rfl ?_
      obtain ⟨h13, hf⟩ := hf
      refine zt_iaload hX dX5_meter_104 (by decide) rfl h13 ?_
      exact zt_iret hX hY dX5_meter_105 hf
    replace hf := z_neg hf c12
    by_cases c14 : a2 = (5 : Int32)
    · replace hf := z_pos hf c14
      refine zt_tabIn hX dX5_meter_15 (by rw [c14]; decide) (by rw [c14]; decide) (off := 91) (by rw [c14]; rfl) (tgt := 106) (by decide) ?_
      refine zt_aload_n hX 0 dX5_meter_106 rfl rfl ?_
      refine zt_get_X5 hX (by decide) (zE_0 _ _) 0 (by decide) kw_234 rfl rfl dX5_meter_107 ?_
      refine zt_iload_n hX 1 dX5_meter_110 rfl rfl ?_
      refine zt_calliV hX hY (av := [.int a1]) (c_X4_countChildren hf) dX5_meter_111 rfl kw_312 kw_313 kw_314 kw_62 kw_315 ⟨rfl, rfl⟩ hy_X4_countChildren ⟨by decide, by decide⟩ ⟨by decide, by decide⟩ (Nat.le_of_ble_eq_true rfl) (by decide) (zE_1 _ _) rfl rfl (fun r15 σ16 hf => ?_)
      exact zt_iret hX hY dX5_meter_114 hf
    replace hf := z_neg hf c14
    by_cases c17 : a2 = (6 : Int32)
    · replace hf := z_pos hf c17
      refine zt_tabIn hX dX5_meter_15 (by rw [c17]; decide) (by rw [c17]; decide) (off := 100) (by rw [c17]; rfl) (tgt := 115) (by decide) ?_
      refine zt_aload_n hX 0 dX5_meter_115 rfl rfl ?_
      refine zt_get_X5 hX (by decide) (zE_0 _ _) 0 (by decide) kw_234 rfl rfl dX5_meter_116 ?_
      refine zt_iload_n hX 1 dX5_meter_119 rfl rfl ?_
      refine zt_calliV hX hY (av := [.int a1]) (c_X4_countAbove hf) dX5_meter_120 rfl kw_316 kw_317 kw_318 kw_62 kw_319 ⟨rfl, rfl⟩ hy_X4_countAbove ⟨by decide, by decide⟩ ⟨by decide, by decide⟩ (Nat.le_of_ble_eq_true rfl) (by decide) (zE_1 _ _) rfl rfl (fun r18 σ19 hf => ?_)
      exact zt_iret hX hY dX5_meter_123 hf
    replace hf := z_neg hf c17
    have qc4 := lv_neT c4 (show (0 : Int32).toInt = 0 from rfl)
    have qc6 := lv_neT c6 (show (1 : Int32).toInt = 1 from rfl)
    have qc8 := lv_neT c8 (show (2 : Int32).toInt = 2 from rfl)
    have qc10 := lv_neT c10 (show (3 : Int32).toInt = 3 from rfl)
    have qc12 := lv_neT c12 (show (4 : Int32).toInt = 4 from rfl)
    have qc14 := lv_neT c14 (show (5 : Int32).toInt = 5 from rfl)
    have qc17 := lv_neT c17 (show (6 : Int32).toInt = 6 from rfl)
    refine zt_tabOut hX dX5_meter_15 (by omega) (tgt := 124) (by decide) ?_
    refine zt_ldc hX dX5_meter_124 kw_293 ?_
    exact zt_iret hX hY dX5_meter_126 hf
  · replace hf := z_pos hf c3
    refine zt_ldc hX dX5_meter_11 kw_258 ?_
    exact zt_iret hX hY dX5_meter_13 hf

theorem dX5_child_0 : decode cX5_child 0 = .ok (.aload_n 0, 1) := by decide +kernel
theorem dX5_child_1 : decode cX5_child 1 = .ok (.getfield 10, 3) := by decide +kernel
theorem dX5_child_4 : decode cX5_child 4 = .ok (.iload_n 1, 1) := by decide +kernel
theorem dX5_child_5 : decode cX5_child 5 = .ok (.invokevirtual 48, 3) := by decide +kernel
theorem dX5_child_8 : decode cX5_child 8 = .ok (.ifCond .ne 6, 3) := by decide +kernel
theorem dX5_child_11 : decode cX5_child 11 = .ok (.ldc 52, 2) := by decide +kernel
theorem dX5_child_13 : decode cX5_child 13 = .ok (.ireturn, 1) := by decide +kernel
theorem dX5_child_14 : decode cX5_child 14 = .ok (.aload_n 0, 1) := by decide +kernel
theorem dX5_child_15 : decode cX5_child 15 = .ok (.getfield 10, 3) := by decide +kernel
theorem dX5_child_18 : decode cX5_child 18 = .ok (.iload_n 1, 1) := by decide +kernel
theorem dX5_child_19 : decode cX5_child 19 = .ok (.iload_n 2, 1) := by decide +kernel
theorem dX5_child_20 : decode cX5_child 20 = .ok (.invokevirtual 100, 3) := by decide +kernel
theorem dX5_child_23 : decode cX5_child 23 = .ok (.istore_n 3, 1) := by decide +kernel
theorem dX5_child_24 : decode cX5_child 24 = .ok (.iload_n 3, 1) := by decide +kernel
theorem dX5_child_25 : decode cX5_child 25 = .ok (.ldc 104, 2) := by decide +kernel
theorem dX5_child_27 : decode cX5_child 27 = .ok (.if_icmp .ne 8, 3) := by decide +kernel
theorem dX5_child_30 : decode cX5_child 30 = .ok (.ldc 52, 2) := by decide +kernel
theorem dX5_child_32 : decode cX5_child 32 = .ok (.goto 4, 3) := by decide +kernel
theorem dX5_child_35 : decode cX5_child 35 = .ok (.iload_n 3, 1) := by decide +kernel
theorem dX5_child_36 : decode cX5_child 36 = .ok (.ireturn, 1) := by decide +kernel
abbrev rm_X5_child : Room := { frames := 1, cells := 0, slots := 0, locals := 24 }
theorem hy_X5_child : yX5_child.cls ≠ "java/lang/invoke/MethodHandle" ∧ yX5_child.cls ≠ "java/lang/invoke/VarHandle" ∧ (parseMethodDescriptor yX5_child.desc).map (fun d => d.parameters.length) = some 2 := by decide +kernel
def w_X5_child (a1 : Int32) (a2 : Int32) (σ : z_S) (Q : Int32 → z_S → Prop) : Prop :=
  w_X4_has a1 σ (fun r1 σ2 => if r1 = 0 then (Q (-2000000001 : Int32) σ2) else (w_X4_findChild a1 a2 σ2 (fun r4 σ5 => if r4 = (-2000000000 : Int32) then (Q (-2000000001 : Int32) σ5) else (Q r4 σ5))))
set_option maxHeartbeats 4000000 in
set_option maxRecDepth 100000 in
theorem c_X5_child {l : Launch} {D : va_G} {cI cJ cM cS : ClassId} {n0 : Nat} {a1 : Int32} {a2 : Int32} {σ : z_S} {Q : Int32 → z_S → Prop} (hf : w_X5_child a1 a2 σ Q) : z_ci l D cI cJ cM cS n0 yX5_child cX5_child 4 .int rm_X5_child 0 0 [.ref (n0 + 0), .int a1, .int a2] σ Q := by
  refine z_ofi (by decide +kernel) (Nat.le_of_ble_eq_true rfl) (fun p e s m args below meth c hX hY => ?_)
  unfold w_X5_child at hf
  refine zt_L (L' := [(0, .ref (n0 + 0)), (1, .int a1), (2, .int a2)]) rfl ?_
  refine zt_aload_n hX 0 dX5_child_0 rfl rfl ?_
  refine zt_get_X5 hX (by decide) (zE_0 _ _) 0 (by decide) kw_234 rfl rfl dX5_child_1 ?_
  refine zt_iload_n hX 1 dX5_child_4 rfl rfl ?_
  refine zt_calliV hX hY (av := [.int a1]) (c_X4_has hf) dX5_child_5 rfl kw_254 kw_255 kw_256 kw_62 kw_257 ⟨rfl, rfl⟩ hy_X4_has ⟨by decide, by decide⟩ ⟨by decide, by decide⟩ (Nat.le_of_ble_eq_true rfl) (by decide) (zE_1 _ _) rfl rfl (fun r1 σ2 hf => ?_)
  refine zt_if_ne hX dX5_child_8 (tgt := 14) (by decide) (fun c3 => ?_) (fun c3 => ?_)
  · replace hf := z_neg hf c3
    refine zt_aload_n hX 0 dX5_child_14 rfl rfl ?_
    refine zt_get_X5 hX (by decide) (zE_0 _ _) 0 (by decide) kw_234 rfl rfl dX5_child_15 ?_
    refine zt_iload_n hX 1 dX5_child_18 rfl rfl ?_
    refine zt_iload_n hX 2 dX5_child_19 rfl rfl ?_
    refine zt_calliV hX hY (av := [.int a1, .int a2]) (c_X4_findChild hf) dX5_child_20 rfl kw_325 kw_326 kw_327 kw_62 kw_328 ⟨rfl, rfl⟩ hy_X4_findChild ⟨by decide, by decide⟩ ⟨by decide, by decide⟩ (Nat.le_of_ble_eq_true rfl) (by decide) (zE_1 _ _) rfl rfl (fun r4 σ5 hf => ?_)
    refine zt_istore_n (L' := [(3, .int r4), (0, .ref (n0 + 0)), (1, .int a1), (2, .int a2)]) hX dX5_child_23 rfl (by decide) rfl ?_
    refine zt_iload_n hX 0 dX5_child_24 rfl rfl ?_
    refine zt_ldc hX dX5_child_25 kw_329 ?_
    refine zt_icmp_ne hX dX5_child_27 (tgt := 35) (by decide) (fun c6 => ?_) (fun c6 => ?_)
    · replace hf := z_neg hf c6
      refine zt_iload_n hX 0 dX5_child_35 rfl rfl ?_
      exact zt_iret hX hY dX5_child_36 hf
    · replace hf := z_pos hf c6
      refine zt_ldc hX dX5_child_30 kw_258 ?_
      refine zt_goto hX dX5_child_32 (tgt := 36) (by decide) ?_
      exact zt_iret hX hY dX5_child_36 hf
  · replace hf := z_pos hf c3
    refine zt_ldc hX dX5_child_11 kw_258 ?_
    exact zt_iret hX hY dX5_child_13 hf

theorem dX5_setReading_0 : decode cX5_setReading 0 = .ok (.aload_n 0, 1) := by decide +kernel
theorem dX5_setReading_1 : decode cX5_setReading 1 = .ok (.getfield 10, 3) := by decide +kernel
theorem dX5_setReading_4 : decode cX5_setReading 4 = .ok (.iload_n 1, 1) := by decide +kernel
theorem dX5_setReading_5 : decode cX5_setReading 5 = .ok (.invokevirtual 48, 3) := by decide +kernel
theorem dX5_setReading_8 : decode cX5_setReading 8 = .ok (.ifCond .eq 10, 3) := by decide +kernel
theorem dX5_setReading_11 : decode cX5_setReading 11 = .ok (.iload_n 2, 1) := by decide +kernel
theorem dX5_setReading_12 : decode cX5_setReading 12 = .ok (.invokestatic 105, 3) := by decide +kernel
theorem dX5_setReading_15 : decode cX5_setReading 15 = .ok (.ifCond .ne 6, 3) := by decide +kernel
theorem dX5_setReading_18 : decode cX5_setReading 18 = .ok (.ldc 52, 2) := by decide +kernel
theorem dX5_setReading_20 : decode cX5_setReading 20 = .ok (.ireturn, 1) := by decide +kernel
theorem dX5_setReading_21 : decode cX5_setReading 21 = .ok (.iload_n 3, 1) := by decide +kernel
theorem dX5_setReading_22 : decode cX5_setReading 22 = .ok (.iconst 0, 1) := by decide +kernel
theorem dX5_setReading_23 : decode cX5_setReading 23 = .ok (.aload_n 0, 1) := by decide +kernel
theorem dX5_setReading_24 : decode cX5_setReading 24 = .ok (.getfield 10, 3) := by decide +kernel
theorem dX5_setReading_27 : decode cX5_setReading 27 = .ok (.iload_n 1, 1) := by decide +kernel
theorem dX5_setReading_28 : decode cX5_setReading 28 = .ok (.invokevirtual 108, 3) := by decide +kernel
theorem dX5_setReading_31 : decode cX5_setReading 31 = .ok (.iconst 1, 1) := by decide +kernel
theorem dX5_setReading_32 : decode cX5_setReading 32 = .ok (.isub, 1) := by decide +kernel
theorem dX5_setReading_33 : decode cX5_setReading 33 = .ok (.invokestatic 62, 3) := by decide +kernel
theorem dX5_setReading_36 : decode cX5_setReading 36 = .ok (.ifCond .ne 6, 3) := by decide +kernel
theorem dX5_setReading_39 : decode cX5_setReading 39 = .ok (.ldc 66, 2) := by decide +kernel
theorem dX5_setReading_41 : decode cX5_setReading 41 = .ok (.ireturn, 1) := by decide +kernel
theorem dX5_setReading_42 : decode cX5_setReading 42 = .ok (.aload_n 0, 1) := by decide +kernel
theorem dX5_setReading_43 : decode cX5_setReading 43 = .ok (.getfield 19, 3) := by decide +kernel
theorem dX5_setReading_46 : decode cX5_setReading 46 = .ok (.aload_n 0, 1) := by decide +kernel
theorem dX5_setReading_47 : decode cX5_setReading 47 = .ok (.getfield 10, 3) := by decide +kernel
theorem dX5_setReading_50 : decode cX5_setReading 50 = .ok (.invokevirtual 54, 3) := by decide +kernel
theorem dX5_setReading_53 : decode cX5_setReading 53 = .ok (.aload_n 0, 1) := by decide +kernel
theorem dX5_setReading_54 : decode cX5_setReading 54 = .ok (.getfield 10, 3) := by decide +kernel
theorem dX5_setReading_57 : decode cX5_setReading 57 = .ok (.getfield 111, 3) := by decide +kernel
theorem dX5_setReading_60 : decode cX5_setReading 60 = .ok (.iload_n 1, 1) := by decide +kernel
theorem dX5_setReading_61 : decode cX5_setReading 61 = .ok (.aaload, 1) := by decide +kernel
theorem dX5_setReading_62 : decode cX5_setReading 62 = .ok (.iload_n 2, 1) := by decide +kernel
theorem dX5_setReading_63 : decode cX5_setReading 63 = .ok (.iaload, 1) := by decide +kernel
theorem dX5_setReading_64 : decode cX5_setReading 64 = .ok (.istore 4, 2) := by decide +kernel
theorem dX5_setReading_66 : decode cX5_setReading 66 = .ok (.aload_n 0, 1) := by decide +kernel
theorem dX5_setReading_67 : decode cX5_setReading 67 = .ok (.getfield 10, 3) := by decide +kernel
theorem dX5_setReading_70 : decode cX5_setReading 70 = .ok (.getfield 111, 3) := by decide +kernel
theorem dX5_setReading_73 : decode cX5_setReading 73 = .ok (.iload_n 1, 1) := by decide +kernel
theorem dX5_setReading_74 : decode cX5_setReading 74 = .ok (.aaload, 1) := by decide +kernel
theorem dX5_setReading_75 : decode cX5_setReading 75 = .ok (.iload_n 2, 1) := by decide +kernel
theorem dX5_setReading_76 : decode cX5_setReading 76 = .ok (.iload_n 3, 1) := by decide +kernel
theorem dX5_setReading_77 : decode cX5_setReading 77 = .ok (.iastore, 1) := by decide +kernel
theorem dX5_setReading_78 : decode cX5_setReading 78 = .ok (.iload 4, 2) := by decide +kernel
theorem dX5_setReading_80 : decode cX5_setReading 80 = .ok (.ireturn, 1) := by decide +kernel
abbrev rm_X5_setReading : Room := { frames := 3, cells := 26, slots := 289, locals := 71 }
theorem hy_X5_setReading : yX5_setReading.cls ≠ "java/lang/invoke/MethodHandle" ∧ yX5_setReading.cls ≠ "java/lang/invoke/VarHandle" ∧ (parseMethodDescriptor yX5_setReading.desc).map (fun d => d.parameters.length) = some 3 := by decide +kernel
def w_X5_setReading (a1 : Int32) (a2 : Int32) (a3 : Int32) (σ : z_S) (Q : Int32 → z_S → Prop) : Prop :=
  w_X4_has a1 σ (fun r1 σ2 => if r1 = 0 then (Q (-2000000001 : Int32) σ2) else (w_X5_isBoundary a2 σ2 (fun r4 σ5 => if r4 = 0 then (Q (-2000000001 : Int32) σ5) else (w_X4_span a1 σ5 (fun r7 σ8 => w_X5_within a3 (0 : Int32) (r7 - (1 : Int32)) σ8 (fun r9 σ10 => if r9 = 0 then (Q (-2000000002 : Int32) σ10) else (w_X2_push σ10 (fun σ13 => vp_in a1 10 ∧ vp_in a2 13 ∧ ∀ y16 : Int32, y16 = (zg_i σ13 (8 + a1.toNatClampNeg) a2.toNatClampNeg) → vp_in a1 10 ∧ vp_in a2 13 ∧ ∀ σ19 : z_S, σ19 = zs_i σ13 (8 + a1.toNatClampNeg) a2.toNatClampNeg a3 → Q y16 σ19))))))))
set_option maxHeartbeats 4000000 in
set_option maxRecDepth 100000 in
theorem c_X5_setReading {l : Launch} {D : va_G} {cI cJ cM cS : ClassId} {n0 : Nat} {a1 : Int32} {a2 : Int32} {a3 : Int32} {σ : z_S} {Q : Int32 → z_S → Prop} (hf : w_X5_setReading a1 a2 a3 σ Q) : z_ci l D cI cJ cM cS n0 yX5_setReading cX5_setReading 5 .int rm_X5_setReading 26 289 [.ref (n0 + 0), .int a1, .int a2, .int a3] σ Q := by
  refine z_ofi (by decide +kernel) (Nat.le_of_ble_eq_true rfl) (fun p e s m args below meth c hX hY => ?_)
  unfold w_X5_setReading at hf
  refine zt_L (L' := [(0, .ref (n0 + 0)), (1, .int a1), (2, .int a2), (3, .int a3)]) rfl ?_
  refine zt_aload_n hX 0 dX5_setReading_0 rfl rfl ?_
  refine zt_get_X5 hX (by decide) (zE_0 _ _) 0 (by decide) kw_234 rfl rfl dX5_setReading_1 ?_
  refine zt_iload_n hX 1 dX5_setReading_4 rfl rfl ?_
  refine zt_calliV hX hY (av := [.int a1]) (c_X4_has hf) dX5_setReading_5 rfl kw_254 kw_255 kw_256 kw_62 kw_257 ⟨rfl, rfl⟩ hy_X4_has ⟨by decide, by decide⟩ ⟨by decide, by decide⟩ (Nat.le_of_ble_eq_true rfl) (by decide) (zE_1 _ _) rfl rfl (fun r1 σ2 hf => ?_)
  refine zt_if_eq hX dX5_setReading_8 (tgt := 18) (by decide) (fun c3 => ?_) (fun c3 => ?_)
  · replace hf := z_pos hf c3
    refine zt_ldc hX dX5_setReading_18 kw_258 ?_
    refine zt_widen (c1 := 26) (s1 := 289) (by decide) (by decide) ?_
    exact zt_iret hX hY dX5_setReading_20 hf
  · replace hf := z_neg hf c3
    refine zt_iload_n hX 2 dX5_setReading_11 rfl rfl ?_
    refine zt_calliS hX hY (av := [.int a2]) (c_X5_isBoundary hf) dX5_setReading_12 rfl kw_334 kw_335 kw_61 kw_336 ⟨rfl, rfl⟩ hy_X5_isBoundary ⟨by decide, by decide⟩ ⟨by decide, by decide⟩ (Nat.le_of_ble_eq_true rfl) (fun r4 σ5 hf => ?_)
    refine zt_if_ne hX dX5_setReading_15 (tgt := 21) (by decide) (fun c6 => ?_) (fun c6 => ?_)
    · replace hf := z_neg hf c6
      refine zt_iload_n hX 3 dX5_setReading_21 rfl rfl ?_
      refine zt_iconst hX dX5_setReading_22 (v := (0 : Int32)) (by decide) ?_
      refine zt_aload_n hX 0 dX5_setReading_23 rfl rfl ?_
      refine zt_get_X5 hX (by decide) (zE_0 _ _) 0 (by decide) kw_234 rfl rfl dX5_setReading_24 ?_
      refine zt_iload_n hX 1 dX5_setReading_27 rfl rfl ?_
      refine zt_calliV hX hY (av := [.int a1]) (c_X4_span hf) dX5_setReading_28 rfl kw_337 kw_338 kw_339 kw_62 kw_340 ⟨rfl, rfl⟩ hy_X4_span ⟨by decide, by decide⟩ ⟨by decide, by decide⟩ (Nat.le_of_ble_eq_true rfl) (by decide) (zE_1 _ _) rfl rfl (fun r7 σ8 hf => ?_)
      refine zt_iconst hX dX5_setReading_31 (v := (1 : Int32)) (by decide) ?_
      refine zt_isub hX dX5_setReading_32 ?_
      refine zt_calliS hX hY (av := [.int a3, .int (0 : Int32), .int (r7 - (1 : Int32))]) (c_X5_within hf) dX5_setReading_33 rfl kw_290 kw_291 kw_61 kw_292 ⟨rfl, rfl⟩ hy_X5_within ⟨by decide, by decide⟩ ⟨by decide, by decide⟩ (Nat.le_of_ble_eq_true rfl) (fun r9 σ10 hf => ?_)
      refine zt_if_ne hX dX5_setReading_36 (tgt := 42) (by decide) (fun c11 => ?_) (fun c11 => ?_)
      · replace hf := z_neg hf c11
        refine zt_aload_n hX 0 dX5_setReading_42 rfl rfl ?_
        refine zt_get_X5 hX (by decide) (zE_0 _ _) 1 (by decide) kw_235 rfl rfl dX5_setReading_43 ?_
        refine zt_aload_n hX 0 dX5_setReading_46 rfl rfl ?_
        refine zt_get_X5 hX (by decide) (zE_0 _ _) 0 (by decide) kw_234 rfl rfl dX5_setReading_47 ?_
        refine zt_callvV hX hY (av := [.ref (n0 + 1)]) (c_X2_push hf) dX5_setReading_50 rfl kw_260 kw_261 kw_262 kw_63 kw_263 ⟨rfl, rfl⟩ hy_X2_push ⟨by decide, by decide⟩ ⟨by decide, by decide⟩ (Nat.le_of_ble_eq_true rfl) (by decide) (zE_27 _ _) rfl rfl (fun σ13 hf => ?_)
        refine zt_aload_n hX 0 dX5_setReading_53 rfl rfl ?_
        refine zt_get_X5 hX (by decide) (zE_0 _ _) 0 (by decide) kw_234 rfl rfl dX5_setReading_54 ?_
        refine zt_get_X4 hX (by decide) (zE_1 _ _) 9 (by decide) kw_115 rfl rfl dX5_setReading_57 ?_
        refine zt_iload_n hX 1 dX5_setReading_60 rfl rfl ?_
        obtain ⟨h14, hf⟩ := hf
        refine zt_aaloadM hX dX5_setReading_61 (by decide) rfl (k1 := 8) rfl h14 ?_
        refine zt_iload_n hX 2 dX5_setReading_62 rfl rfl ?_
        obtain ⟨h15, hf⟩ := hf
        refine zt_iaload hX dX5_setReading_63 (z_row8 (z_lt h14)) (z_sh8 (z_lt h14)) h15 ?_
        refine zt_nmi (fun y16 e16 => ?_)
        replace hf := hf y16 e16
        refine zt_istore (L' := [(4, .int y16), (0, .ref (n0 + 0)), (1, .int a1), (2, .int a2), (3, .int a3)]) hX dX5_setReading_64 (by decide) rfl ?_
        refine zt_aload_n hX 1 dX5_setReading_66 rfl rfl ?_
        refine zt_get_X5 hX (by decide) (zE_0 _ _) 0 (by decide) kw_234 rfl rfl dX5_setReading_67 ?_
        refine zt_get_X4 hX (by decide) (zE_1 _ _) 9 (by decide) kw_115 rfl rfl dX5_setReading_70 ?_
        refine zt_iload_n hX 2 dX5_setReading_73 rfl rfl ?_
        obtain ⟨h17, hf⟩ := hf
        refine zt_aaloadM hX dX5_setReading_74 (by decide) rfl (k1 := 8) rfl h17 ?_
        refine zt_iload_n hX 3 dX5_setReading_75 rfl rfl ?_
        refine zt_iload_n hX 4 dX5_setReading_76 rfl rfl ?_
        obtain ⟨h18, hf⟩ := hf
        refine zt_iastore hX dX5_setReading_77 (z_row8 (z_lt h17)) (z_sh8 (z_lt h17)) h18 ?_
        refine zt_nms (fun σ19 d19 => ?_)
        replace hf := hf σ19 d19
        refine zt_iload hX 0 dX5_setReading_78 rfl ?_
        exact zt_iret hX hY dX5_setReading_80 hf
      · replace hf := z_pos hf c11
        refine zt_ldc hX dX5_setReading_39 kw_293 ?_
        refine zt_widen (c1 := 26) (s1 := 289) (by decide) (by decide) ?_
        exact zt_iret hX hY dX5_setReading_41 hf
    · replace hf := z_pos hf c6
      refine zt_ldc hX dX5_setReading_18 kw_258 ?_
      refine zt_widen (c1 := 26) (s1 := 289) (by decide) (by decide) ?_
      exact zt_iret hX hY dX5_setReading_20 hf

theorem dX5_setAll_0 : decode cX5_setAll 0 = .ok (.aload_n 0, 1) := by decide +kernel
theorem dX5_setAll_1 : decode cX5_setAll 1 = .ok (.getfield 10, 3) := by decide +kernel
theorem dX5_setAll_4 : decode cX5_setAll 4 = .ok (.iload_n 1, 1) := by decide +kernel
theorem dX5_setAll_5 : decode cX5_setAll 5 = .ok (.invokevirtual 48, 3) := by decide +kernel
theorem dX5_setAll_8 : decode cX5_setAll 8 = .ok (.ifCond .ne 6, 3) := by decide +kernel
theorem dX5_setAll_11 : decode cX5_setAll 11 = .ok (.ldc 52, 2) := by decide +kernel
theorem dX5_setAll_13 : decode cX5_setAll 13 = .ok (.ireturn, 1) := by decide +kernel
theorem dX5_setAll_14 : decode cX5_setAll 14 = .ok (.aload_n 0, 1) := by decide +kernel
theorem dX5_setAll_15 : decode cX5_setAll 15 = .ok (.getfield 10, 3) := by decide +kernel
theorem dX5_setAll_18 : decode cX5_setAll 18 = .ok (.iload_n 1, 1) := by decide +kernel
theorem dX5_setAll_19 : decode cX5_setAll 19 = .ok (.invokevirtual 108, 3) := by decide +kernel
theorem dX5_setAll_22 : decode cX5_setAll 22 = .ok (.istore 4, 2) := by decide +kernel
theorem dX5_setAll_24 : decode cX5_setAll 24 = .ok (.iload_n 2, 1) := by decide +kernel
theorem dX5_setAll_25 : decode cX5_setAll 25 = .ok (.iconst 0, 1) := by decide +kernel
theorem dX5_setAll_26 : decode cX5_setAll 26 = .ok (.iload 4, 2) := by decide +kernel
theorem dX5_setAll_28 : decode cX5_setAll 28 = .ok (.iconst 1, 1) := by decide +kernel
theorem dX5_setAll_29 : decode cX5_setAll 29 = .ok (.isub, 1) := by decide +kernel
theorem dX5_setAll_30 : decode cX5_setAll 30 = .ok (.invokestatic 62, 3) := by decide +kernel
theorem dX5_setAll_33 : decode cX5_setAll 33 = .ok (.ifCond .eq 15, 3) := by decide +kernel
theorem dX5_setAll_36 : decode cX5_setAll 36 = .ok (.iload_n 3, 1) := by decide +kernel
theorem dX5_setAll_37 : decode cX5_setAll 37 = .ok (.iconst 0, 1) := by decide +kernel
theorem dX5_setAll_38 : decode cX5_setAll 38 = .ok (.iload 4, 2) := by decide +kernel
theorem dX5_setAll_40 : decode cX5_setAll 40 = .ok (.iconst 1, 1) := by decide +kernel
theorem dX5_setAll_41 : decode cX5_setAll 41 = .ok (.isub, 1) := by decide +kernel
theorem dX5_setAll_42 : decode cX5_setAll 42 = .ok (.invokestatic 62, 3) := by decide +kernel
theorem dX5_setAll_45 : decode cX5_setAll 45 = .ok (.ifCond .ne 6, 3) := by decide +kernel
theorem dX5_setAll_48 : decode cX5_setAll 48 = .ok (.ldc 66, 2) := by decide +kernel
theorem dX5_setAll_50 : decode cX5_setAll 50 = .ok (.ireturn, 1) := by decide +kernel
theorem dX5_setAll_51 : decode cX5_setAll 51 = .ok (.aload_n 0, 1) := by decide +kernel
theorem dX5_setAll_52 : decode cX5_setAll 52 = .ok (.getfield 19, 3) := by decide +kernel
theorem dX5_setAll_55 : decode cX5_setAll 55 = .ok (.aload_n 0, 1) := by decide +kernel
theorem dX5_setAll_56 : decode cX5_setAll 56 = .ok (.getfield 10, 3) := by decide +kernel
theorem dX5_setAll_59 : decode cX5_setAll 59 = .ok (.invokevirtual 54, 3) := by decide +kernel
theorem dX5_setAll_62 : decode cX5_setAll 62 = .ok (.iload_n 2, 1) := by decide +kernel
theorem dX5_setAll_63 : decode cX5_setAll 63 = .ok (.istore 5, 2) := by decide +kernel
theorem dX5_setAll_65 : decode cX5_setAll 65 = .ok (.aload_n 0, 1) := by decide +kernel
theorem dX5_setAll_66 : decode cX5_setAll 66 = .ok (.getfield 10, 3) := by decide +kernel
theorem dX5_setAll_69 : decode cX5_setAll 69 = .ok (.getfield 111, 3) := by decide +kernel
theorem dX5_setAll_72 : decode cX5_setAll 72 = .ok (.iload_n 1, 1) := by decide +kernel
theorem dX5_setAll_73 : decode cX5_setAll 73 = .ok (.aaload, 1) := by decide +kernel
theorem dX5_setAll_74 : decode cX5_setAll 74 = .ok (.iconst 0, 1) := by decide +kernel
theorem dX5_setAll_75 : decode cX5_setAll 75 = .ok (.iload 5, 2) := by decide +kernel
theorem dX5_setAll_77 : decode cX5_setAll 77 = .ok (.iastore, 1) := by decide +kernel
theorem dX5_setAll_78 : decode cX5_setAll 78 = .ok (.iconst 1, 1) := by decide +kernel
theorem dX5_setAll_79 : decode cX5_setAll 79 = .ok (.istore 6, 2) := by decide +kernel
theorem dX5_setAll_81 : decode cX5_setAll 81 = .ok (.iload 6, 2) := by decide +kernel
theorem dX5_setAll_83 : decode cX5_setAll 83 = .ok (.bipush 13, 2) := by decide +kernel
theorem dX5_setAll_85 : decode cX5_setAll 85 = .ok (.if_icmp .ge 43, 3) := by decide +kernel
theorem dX5_setAll_88 : decode cX5_setAll 88 = .ok (.iload 5, 2) := by decide +kernel
theorem dX5_setAll_90 : decode cX5_setAll 90 = .ok (.iload_n 3, 1) := by decide +kernel
theorem dX5_setAll_91 : decode cX5_setAll 91 = .ok (.iadd, 1) := by decide +kernel
theorem dX5_setAll_92 : decode cX5_setAll 92 = .ok (.istore 5, 2) := by decide +kernel
theorem dX5_setAll_94 : decode cX5_setAll 94 = .ok (.iload 5, 2) := by decide +kernel
theorem dX5_setAll_96 : decode cX5_setAll 96 = .ok (.iload 4, 2) := by decide +kernel
theorem dX5_setAll_98 : decode cX5_setAll 98 = .ok (.if_icmp .lt 10, 3) := by decide +kernel
theorem dX5_setAll_101 : decode cX5_setAll 101 = .ok (.iload 5, 2) := by decide +kernel
theorem dX5_setAll_103 : decode cX5_setAll 103 = .ok (.iload 4, 2) := by decide +kernel
theorem dX5_setAll_105 : decode cX5_setAll 105 = .ok (.isub, 1) := by decide +kernel
theorem dX5_setAll_106 : decode cX5_setAll 106 = .ok (.istore 5, 2) := by decide +kernel
theorem dX5_setAll_108 : decode cX5_setAll 108 = .ok (.aload_n 0, 1) := by decide +kernel
theorem dX5_setAll_109 : decode cX5_setAll 109 = .ok (.getfield 10, 3) := by decide +kernel
theorem dX5_setAll_112 : decode cX5_setAll 112 = .ok (.getfield 111, 3) := by decide +kernel
theorem dX5_setAll_115 : decode cX5_setAll 115 = .ok (.iload_n 1, 1) := by decide +kernel
theorem dX5_setAll_116 : decode cX5_setAll 116 = .ok (.aaload, 1) := by decide +kernel
theorem dX5_setAll_117 : decode cX5_setAll 117 = .ok (.iload 6, 2) := by decide +kernel
theorem dX5_setAll_119 : decode cX5_setAll 119 = .ok (.iload 5, 2) := by decide +kernel
theorem dX5_setAll_121 : decode cX5_setAll 121 = .ok (.iastore, 1) := by decide +kernel
theorem dX5_setAll_122 : decode cX5_setAll 122 = .ok (.iinc 6 1, 3) := by decide +kernel
theorem dX5_setAll_125 : decode cX5_setAll 125 = .ok (.goto (-44), 3) := by decide +kernel
theorem dX5_setAll_128 : decode cX5_setAll 128 = .ok (.iload 5, 2) := by decide +kernel
theorem dX5_setAll_130 : decode cX5_setAll 130 = .ok (.ireturn, 1) := by decide +kernel
abbrev rm_X5_setAll : Room := { frames := 3, cells := 26, slots := 289, locals := 71 }
theorem hy_X5_setAll : yX5_setAll.cls ≠ "java/lang/invoke/MethodHandle" ∧ yX5_setAll.cls ≠ "java/lang/invoke/VarHandle" ∧ (parseMethodDescriptor yX5_setAll.desc).map (fun d => d.parameters.length) = some 3 := by decide +kernel
def w_X5_setAll_108 (k81 : Int32 → Int32 → Int32 → Int32 → Int32 → z_S → Prop) (Q : Int32 → z_S → Prop) (x1 : Int32) (x3 : Int32) (x4 : Int32) (x5 : Int32) (x6 : Int32) (σ : z_S) : Prop :=
  vp_in x1 10 ∧ vp_in x6 13 ∧ ∀ σ22 : z_S, σ22 = zs_i σ (8 + x1.toNatClampNeg) x6.toNatClampNeg x5 → ∀ y23 : Int32, y23 = (x6 + (1 : Int32)) → k81 x1 x3 x4 x5 y23 σ22
def wb_X5_setAll_81  (Q : Int32 → z_S → Prop) (k81 : Int32 → Int32 → Int32 → Int32 → Int32 → z_S → Prop) (x1 : Int32) (x3 : Int32) (x4 : Int32) (x5 : Int32) (x6 : Int32) (σ : z_S) : Prop :=
  if (13 : Int32) ≤ x6 then (Q x5 σ) else (∀ y18 : Int32, y18 = (x5 + x3) → if y18 < x4 then (w_X5_setAll_108 k81 Q x1 x3 x4 y18 x6 σ) else (∀ y24 : Int32, y24 = (y18 - x4) → w_X5_setAll_108 k81 Q x1 x3 x4 y24 x6 σ))
def w_X5_setAll_81  (Q : Int32 → z_S → Prop) : Nat → Int32 → Int32 → Int32 → Int32 → Int32 → z_S → Prop
  | 0 => fun _ _ _ _ _ _ => False
  | n + 1 => wb_X5_setAll_81  Q (w_X5_setAll_81  Q n)
def w_X5_setAll (a1 : Int32) (a2 : Int32) (a3 : Int32) (σ : z_S) (Q : Int32 → z_S → Prop) : Prop :=
  w_X4_has a1 σ (fun r1 σ2 => if r1 = 0 then (Q (-2000000001 : Int32) σ2) else (w_X4_span a1 σ2 (fun r4 σ5 => w_X5_within a2 (0 : Int32) (r4 - (1 : Int32)) σ5 (fun r6 σ7 => if r6 = 0 then (Q (-2000000002 : Int32) σ7) else (w_X5_within a3 (0 : Int32) (r4 - (1 : Int32)) σ7 (fun r9 σ10 => if r9 = 0 then (Q (-2000000002 : Int32) σ10) else (w_X2_push σ10 (fun σ13 => vp_in a1 10 ∧ vp_in (0 : Int32) 13 ∧ ∀ σ16 : z_S, σ16 = zs_i σ13 (8 + a1.toNatClampNeg) (0 : Int32).toNatClampNeg a2 → w_X5_setAll_81 Q 400 a1 a3 r4 a2 (1 : Int32) σ16))))))))
set_option maxHeartbeats 4000000 in
set_option maxRecDepth 100000 in
theorem t_X5_setAll_108 {l : Launch} {D : va_G} {cI cJ cM cS : ClassId} {n0 : Nat} {p : Program} {e : Env} {s : State} {m : MethodId} {args : Array Value} {below : List Frame} {meth : Method} {c : Code} {k81 : Int32 → Int32 → Int32 → Int32 → Int32 → z_S → Prop} {Q : Int32 → z_S → Prop} (hX : z_X D cI cJ cM cS p s m args c cX5_setAll 7 yX5_setAll.cls) (hY : z_Y s meth (some .int)) (hk81 : ∀ (x1 : Int32) (x3 : Int32) (x4 : Int32) (x5 : Int32) (x6 : Int32) (σ : z_S), k81 x1 x3 x4 x5 x6 σ → z_t D cI cJ cM cS n0 p l e rm_X5_setAll s m args below meth c 7 (MQ below (va_Qi Q (fun u t => z_Bq D cI cJ cM cS n0 u t) (z_Ab n0)) args s 26 289 (z_Ab n0)) 26 289 81 [(0, .ref (n0 + 0)), (1, .int x1), (3, .int x3), (4, .int x4), (5, .int x5), (6, .int x6)] [] σ) (x1 : Int32) (x3 : Int32) (x4 : Int32) (x5 : Int32) (x6 : Int32) (σ : z_S) (hf : w_X5_setAll_108 k81 Q x1 x3 x4 x5 x6 σ) : z_t D cI cJ cM cS n0 p l e rm_X5_setAll s m args below meth c 7 (MQ below (va_Qi Q (fun u t => z_Bq D cI cJ cM cS n0 u t) (z_Ab n0)) args s 26 289 (z_Ab n0)) 26 289 108 [(0, .ref (n0 + 0)), (1, .int x1), (3, .int x3), (4, .int x4), (5, .int x5), (6, .int x6)] [] σ := by
  unfold w_X5_setAll_108 at hf
  refine zt_aload_n hX 0 dX5_setAll_108 rfl rfl ?_
  refine zt_get_X5 hX (by decide) (zE_0 _ _) 0 (by decide) kw_234 rfl rfl dX5_setAll_109 ?_
  refine zt_get_X4 hX (by decide) (zE_1 _ _) 9 (by decide) kw_115 rfl rfl dX5_setAll_112 ?_
  refine zt_iload_n hX 1 dX5_setAll_115 rfl rfl ?_
  obtain ⟨h20, hf⟩ := hf
  refine zt_aaloadM hX dX5_setAll_116 (by decide) rfl (k1 := 8) rfl h20 ?_
  refine zt_iload hX 5 dX5_setAll_117 rfl ?_
  refine zt_iload hX 4 dX5_setAll_119 rfl ?_
  obtain ⟨h21, hf⟩ := hf
  refine zt_iastore hX dX5_setAll_121 (z_row8 (z_lt h20)) (z_sh8 (z_lt h20)) h21 ?_
  refine zt_nms (fun σ22 d22 => ?_)
  replace hf := hf σ22 d22
  obtain ⟨y23, e23⟩ : ∃ y : Int32, y = (x6 + (1 : Int32)) := ⟨_, rfl⟩
  replace hf := hf y23 e23
  refine zt_iinc (L' := [(6, .int y23), (0, .ref (n0 + 0)), (1, .int x1), (3, .int x3), (4, .int x4), (5, .int x5)]) hX 5 dX5_setAll_122 rfl (v := y23) (by rw [e23]; rfl) (by decide) rfl ?_
  refine zt_goto hX dX5_setAll_125 (tgt := 81) (by decide) ?_
  exact zt_sub [1, 2, 3, 4, 5, 0] rfl (hk81 _ _ _ _ _ _ hf)
set_option maxHeartbeats 4000000 in
set_option maxRecDepth 100000 in
theorem t_X5_setAll_81 {l : Launch} {D : va_G} {cI cJ cM cS : ClassId} {n0 : Nat} {p : Program} {e : Env} {s : State} {m : MethodId} {args : Array Value} {below : List Frame} {meth : Method} {c : Code}  {Q : Int32 → z_S → Prop} (hX : z_X D cI cJ cM cS p s m args c cX5_setAll 7 yX5_setAll.cls) (hY : z_Y s meth (some .int))  : ∀ (n : Nat) (x1 : Int32) (x3 : Int32) (x4 : Int32) (x5 : Int32) (x6 : Int32) (σ : z_S), w_X5_setAll_81  Q n x1 x3 x4 x5 x6 σ → z_t D cI cJ cM cS n0 p l e rm_X5_setAll s m args below meth c 7 (MQ below (va_Qi Q (fun u t => z_Bq D cI cJ cM cS n0 u t) (z_Ab n0)) args s 26 289 (z_Ab n0)) 26 289 81 [(0, .ref (n0 + 0)), (1, .int x1), (3, .int x3), (4, .int x4), (5, .int x5), (6, .int x6)] [] σ := by
  intro n
  induction n with
  | zero => intro _ _ _ _ _ _ hf; exact hf.elim
  | succ n ih81 =>
    intro x1 x3 x4 x5 x6 σ hf
    have hf : wb_X5_setAll_81  Q (w_X5_setAll_81  Q n) x1 x3 x4 x5 x6 σ := hf
    unfold wb_X5_setAll_81 at hf
    refine zt_iload hX 5 dX5_setAll_81 rfl ?_
    refine zt_bipush hX dX5_setAll_83 (v := (13 : Int32)) (by decide) ?_
    refine zt_icmp_ge hX dX5_setAll_85 (tgt := 128) (by decide) (fun c17 => ?_) (fun c17 => ?_)
    · replace hf := z_pos hf c17
      refine zt_iload hX 4 dX5_setAll_128 rfl ?_
      exact zt_iret hX hY dX5_setAll_130 hf
    · replace hf := z_neg hf c17
      refine zt_iload hX 4 dX5_setAll_88 rfl ?_
      refine zt_iload_n hX 2 dX5_setAll_90 rfl rfl ?_
      refine zt_iadd hX dX5_setAll_91 ?_
      refine zt_nmi (fun y18 e18 => ?_)
      replace hf := hf y18 e18
      refine zt_istore (L' := [(5, .int y18), (0, .ref (n0 + 0)), (1, .int x1), (3, .int x3), (4, .int x4), (6, .int x6)]) hX dX5_setAll_92 (by decide) rfl ?_
      refine zt_iload hX 0 dX5_setAll_94 rfl ?_
      refine zt_iload hX 4 dX5_setAll_96 rfl ?_
      refine zt_icmp_lt hX dX5_setAll_98 (tgt := 108) (by decide) (fun c19 => ?_) (fun c19 => ?_)
      · replace hf := z_pos hf c19
        exact zt_sub [1, 2, 3, 4, 0, 5] rfl (t_X5_setAll_108 hX hY ih81 _ _ _ _ _ _ hf)
      · replace hf := z_neg hf c19
        refine zt_iload hX 0 dX5_setAll_101 rfl ?_
        refine zt_iload hX 4 dX5_setAll_103 rfl ?_
        refine zt_isub hX dX5_setAll_105 ?_
        refine zt_nmi (fun y24 e24 => ?_)
        replace hf := hf y24 e24
        refine zt_istore (L' := [(5, .int y24), (0, .ref (n0 + 0)), (1, .int x1), (3, .int x3), (4, .int x4), (6, .int x6)]) hX dX5_setAll_106 (by decide) rfl ?_
        exact zt_sub [1, 2, 3, 4, 0, 5] rfl (t_X5_setAll_108 hX hY ih81 _ _ _ _ _ _ hf)
set_option maxHeartbeats 4000000 in
set_option maxRecDepth 100000 in
theorem c_X5_setAll {l : Launch} {D : va_G} {cI cJ cM cS : ClassId} {n0 : Nat} {a1 : Int32} {a2 : Int32} {a3 : Int32} {σ : z_S} {Q : Int32 → z_S → Prop} (hf : w_X5_setAll a1 a2 a3 σ Q) : z_ci l D cI cJ cM cS n0 yX5_setAll cX5_setAll 7 .int rm_X5_setAll 26 289 [.ref (n0 + 0), .int a1, .int a2, .int a3] σ Q := by
  refine z_ofi (by decide +kernel) (Nat.le_of_ble_eq_true rfl) (fun p e s m args below meth c hX hY => ?_)
  unfold w_X5_setAll at hf
  refine zt_L (L' := [(0, .ref (n0 + 0)), (1, .int a1), (2, .int a2), (3, .int a3)]) rfl ?_
  refine zt_aload_n hX 0 dX5_setAll_0 rfl rfl ?_
  refine zt_get_X5 hX (by decide) (zE_0 _ _) 0 (by decide) kw_234 rfl rfl dX5_setAll_1 ?_
  refine zt_iload_n hX 1 dX5_setAll_4 rfl rfl ?_
  refine zt_calliV hX hY (av := [.int a1]) (c_X4_has hf) dX5_setAll_5 rfl kw_254 kw_255 kw_256 kw_62 kw_257 ⟨rfl, rfl⟩ hy_X4_has ⟨by decide, by decide⟩ ⟨by decide, by decide⟩ (Nat.le_of_ble_eq_true rfl) (by decide) (zE_1 _ _) rfl rfl (fun r1 σ2 hf => ?_)
  refine zt_if_ne hX dX5_setAll_8 (tgt := 14) (by decide) (fun c3 => ?_) (fun c3 => ?_)
  · replace hf := z_neg hf c3
    refine zt_aload_n hX 0 dX5_setAll_14 rfl rfl ?_
    refine zt_get_X5 hX (by decide) (zE_0 _ _) 0 (by decide) kw_234 rfl rfl dX5_setAll_15 ?_
    refine zt_iload_n hX 1 dX5_setAll_18 rfl rfl ?_
    refine zt_calliV hX hY (av := [.int a1]) (c_X4_span hf) dX5_setAll_19 rfl kw_337 kw_338 kw_339 kw_62 kw_340 ⟨rfl, rfl⟩ hy_X4_span ⟨by decide, by decide⟩ ⟨by decide, by decide⟩ (Nat.le_of_ble_eq_true rfl) (by decide) (zE_1 _ _) rfl rfl (fun r4 σ5 hf => ?_)
    refine zt_istore (L' := [(4, .int r4), (0, .ref (n0 + 0)), (1, .int a1), (2, .int a2), (3, .int a3)]) hX dX5_setAll_22 (by decide) rfl ?_
    refine zt_iload_n hX 3 dX5_setAll_24 rfl rfl ?_
    refine zt_iconst hX dX5_setAll_25 (v := (0 : Int32)) (by decide) ?_
    refine zt_iload hX 0 dX5_setAll_26 rfl ?_
    refine zt_iconst hX dX5_setAll_28 (v := (1 : Int32)) (by decide) ?_
    refine zt_isub hX dX5_setAll_29 ?_
    refine zt_calliS hX hY (av := [.int a2, .int (0 : Int32), .int (r4 - (1 : Int32))]) (c_X5_within hf) dX5_setAll_30 rfl kw_290 kw_291 kw_61 kw_292 ⟨rfl, rfl⟩ hy_X5_within ⟨by decide, by decide⟩ ⟨by decide, by decide⟩ (Nat.le_of_ble_eq_true rfl) (fun r6 σ7 hf => ?_)
    refine zt_if_eq hX dX5_setAll_33 (tgt := 48) (by decide) (fun c8 => ?_) (fun c8 => ?_)
    · replace hf := z_pos hf c8
      refine zt_ldc hX dX5_setAll_48 kw_293 ?_
      refine zt_widen (c1 := 26) (s1 := 289) (by decide) (by decide) ?_
      exact zt_iret hX hY dX5_setAll_50 hf
    · replace hf := z_neg hf c8
      refine zt_iload_n hX 4 dX5_setAll_36 rfl rfl ?_
      refine zt_iconst hX dX5_setAll_37 (v := (0 : Int32)) (by decide) ?_
      refine zt_iload hX 0 dX5_setAll_38 rfl ?_
      refine zt_iconst hX dX5_setAll_40 (v := (1 : Int32)) (by decide) ?_
      refine zt_isub hX dX5_setAll_41 ?_
      refine zt_calliS hX hY (av := [.int a3, .int (0 : Int32), .int (r4 - (1 : Int32))]) (c_X5_within hf) dX5_setAll_42 rfl kw_290 kw_291 kw_61 kw_292 ⟨rfl, rfl⟩ hy_X5_within ⟨by decide, by decide⟩ ⟨by decide, by decide⟩ (Nat.le_of_ble_eq_true rfl) (fun r9 σ10 hf => ?_)
      refine zt_if_ne hX dX5_setAll_45 (tgt := 51) (by decide) (fun c11 => ?_) (fun c11 => ?_)
      · replace hf := z_neg hf c11
        refine zt_aload_n hX 1 dX5_setAll_51 rfl rfl ?_
        refine zt_get_X5 hX (by decide) (zE_0 _ _) 1 (by decide) kw_235 rfl rfl dX5_setAll_52 ?_
        refine zt_aload_n hX 1 dX5_setAll_55 rfl rfl ?_
        refine zt_get_X5 hX (by decide) (zE_0 _ _) 0 (by decide) kw_234 rfl rfl dX5_setAll_56 ?_
        refine zt_callvV hX hY (av := [.ref (n0 + 1)]) (c_X2_push hf) dX5_setAll_59 rfl kw_260 kw_261 kw_262 kw_63 kw_263 ⟨rfl, rfl⟩ hy_X2_push ⟨by decide, by decide⟩ ⟨by decide, by decide⟩ (Nat.le_of_ble_eq_true rfl) (by decide) (zE_27 _ _) rfl rfl (fun σ13 hf => ?_)
        refine zt_iload_n hX 3 dX5_setAll_62 rfl rfl ?_
        refine zt_istore (L' := [(5, .int a2), (4, .int r4), (0, .ref (n0 + 0)), (1, .int a1), (2, .int a2), (3, .int a3)]) hX dX5_setAll_63 (by decide) rfl ?_
        refine zt_aload_n hX 2 dX5_setAll_65 rfl rfl ?_
        refine zt_get_X5 hX (by decide) (zE_0 _ _) 0 (by decide) kw_234 rfl rfl dX5_setAll_66 ?_
        refine zt_get_X4 hX (by decide) (zE_1 _ _) 9 (by decide) kw_115 rfl rfl dX5_setAll_69 ?_
        refine zt_iload_n hX 3 dX5_setAll_72 rfl rfl ?_
        obtain ⟨h14, hf⟩ := hf
        refine zt_aaloadM hX dX5_setAll_73 (by decide) rfl (k1 := 8) rfl h14 ?_
        refine zt_iconst hX dX5_setAll_74 (v := (0 : Int32)) (by decide) ?_
        refine zt_iload hX 0 dX5_setAll_75 rfl ?_
        obtain ⟨h15, hf⟩ := hf
        refine zt_iastore hX dX5_setAll_77 (z_row8 (z_lt h14)) (z_sh8 (z_lt h14)) h15 ?_
        refine zt_nms (fun σ16 d16 => ?_)
        replace hf := hf σ16 d16
        refine zt_iconst hX dX5_setAll_78 (v := (1 : Int32)) (by decide) ?_
        refine zt_istore (L' := [(6, .int (1 : Int32)), (5, .int a2), (4, .int r4), (0, .ref (n0 + 0)), (1, .int a1), (2, .int a2), (3, .int a3)]) hX dX5_setAll_79 (by decide) rfl ?_
        exact zt_sub [3, 4, 6, 2, 1, 0] rfl (t_X5_setAll_81 hX hY 400 _ _ _ _ _ _ hf)
      · replace hf := z_pos hf c11
        refine zt_ldc hX dX5_setAll_48 kw_293 ?_
        refine zt_widen (c1 := 26) (s1 := 289) (by decide) (by decide) ?_
        exact zt_iret hX hY dX5_setAll_50 hf
  · replace hf := z_pos hf c3
    refine zt_ldc hX dX5_setAll_11 kw_258 ?_
    refine zt_widen (c1 := 26) (s1 := 289) (by decide) (by decide) ?_
    exact zt_iret hX hY dX5_setAll_13 hf

theorem dX5_removeReading_0 : decode cX5_removeReading 0 = .ok (.aload_n 0, 1) := by decide +kernel
theorem dX5_removeReading_1 : decode cX5_removeReading 1 = .ok (.getfield 10, 3) := by decide +kernel
theorem dX5_removeReading_4 : decode cX5_removeReading 4 = .ok (.iload_n 1, 1) := by decide +kernel
theorem dX5_removeReading_5 : decode cX5_removeReading 5 = .ok (.invokevirtual 48, 3) := by decide +kernel
theorem dX5_removeReading_8 : decode cX5_removeReading 8 = .ok (.ifCond .eq 10, 3) := by decide +kernel
theorem dX5_removeReading_11 : decode cX5_removeReading 11 = .ok (.iload_n 2, 1) := by decide +kernel
theorem dX5_removeReading_12 : decode cX5_removeReading 12 = .ok (.invokestatic 105, 3) := by decide +kernel
theorem dX5_removeReading_15 : decode cX5_removeReading 15 = .ok (.ifCond .ne 6, 3) := by decide +kernel
theorem dX5_removeReading_18 : decode cX5_removeReading 18 = .ok (.ldc 52, 2) := by decide +kernel
theorem dX5_removeReading_20 : decode cX5_removeReading 20 = .ok (.ireturn, 1) := by decide +kernel
theorem dX5_removeReading_21 : decode cX5_removeReading 21 = .ok (.aload_n 0, 1) := by decide +kernel
theorem dX5_removeReading_22 : decode cX5_removeReading 22 = .ok (.getfield 19, 3) := by decide +kernel
theorem dX5_removeReading_25 : decode cX5_removeReading 25 = .ok (.aload_n 0, 1) := by decide +kernel
theorem dX5_removeReading_26 : decode cX5_removeReading 26 = .ok (.getfield 10, 3) := by decide +kernel
theorem dX5_removeReading_29 : decode cX5_removeReading 29 = .ok (.invokevirtual 54, 3) := by decide +kernel
theorem dX5_removeReading_32 : decode cX5_removeReading 32 = .ok (.aload_n 0, 1) := by decide +kernel
theorem dX5_removeReading_33 : decode cX5_removeReading 33 = .ok (.getfield 10, 3) := by decide +kernel
theorem dX5_removeReading_36 : decode cX5_removeReading 36 = .ok (.getfield 111, 3) := by decide +kernel
theorem dX5_removeReading_39 : decode cX5_removeReading 39 = .ok (.iload_n 1, 1) := by decide +kernel
theorem dX5_removeReading_40 : decode cX5_removeReading 40 = .ok (.aaload, 1) := by decide +kernel
theorem dX5_removeReading_41 : decode cX5_removeReading 41 = .ok (.iload_n 2, 1) := by decide +kernel
theorem dX5_removeReading_42 : decode cX5_removeReading 42 = .ok (.iaload, 1) := by decide +kernel
theorem dX5_removeReading_43 : decode cX5_removeReading 43 = .ok (.istore_n 3, 1) := by decide +kernel
theorem dX5_removeReading_44 : decode cX5_removeReading 44 = .ok (.aload_n 0, 1) := by decide +kernel
theorem dX5_removeReading_45 : decode cX5_removeReading 45 = .ok (.getfield 10, 3) := by decide +kernel
theorem dX5_removeReading_48 : decode cX5_removeReading 48 = .ok (.getfield 111, 3) := by decide +kernel
theorem dX5_removeReading_51 : decode cX5_removeReading 51 = .ok (.iload_n 1, 1) := by decide +kernel
theorem dX5_removeReading_52 : decode cX5_removeReading 52 = .ok (.aaload, 1) := by decide +kernel
theorem dX5_removeReading_53 : decode cX5_removeReading 53 = .ok (.iload_n 2, 1) := by decide +kernel
theorem dX5_removeReading_54 : decode cX5_removeReading 54 = .ok (.ldc 104, 2) := by decide +kernel
theorem dX5_removeReading_56 : decode cX5_removeReading 56 = .ok (.iastore, 1) := by decide +kernel
theorem dX5_removeReading_57 : decode cX5_removeReading 57 = .ok (.iload_n 3, 1) := by decide +kernel
theorem dX5_removeReading_58 : decode cX5_removeReading 58 = .ok (.ireturn, 1) := by decide +kernel
abbrev rm_X5_removeReading : Room := { frames := 3, cells := 26, slots := 289, locals := 71 }
theorem hy_X5_removeReading : yX5_removeReading.cls ≠ "java/lang/invoke/MethodHandle" ∧ yX5_removeReading.cls ≠ "java/lang/invoke/VarHandle" ∧ (parseMethodDescriptor yX5_removeReading.desc).map (fun d => d.parameters.length) = some 2 := by decide +kernel
def w_X5_removeReading (a1 : Int32) (a2 : Int32) (σ : z_S) (Q : Int32 → z_S → Prop) : Prop :=
  w_X4_has a1 σ (fun r1 σ2 => if r1 = 0 then (Q (-2000000001 : Int32) σ2) else (w_X5_isBoundary a2 σ2 (fun r4 σ5 => if r4 = 0 then (Q (-2000000001 : Int32) σ5) else (w_X2_push σ5 (fun σ8 => vp_in a1 10 ∧ vp_in a2 13 ∧ ∀ y11 : Int32, y11 = (zg_i σ8 (8 + a1.toNatClampNeg) a2.toNatClampNeg) → vp_in a1 10 ∧ vp_in a2 13 ∧ ∀ σ14 : z_S, σ14 = zs_i σ8 (8 + a1.toNatClampNeg) a2.toNatClampNeg (-2000000000 : Int32) → Q y11 σ14)))))
set_option maxHeartbeats 4000000 in
set_option maxRecDepth 100000 in
theorem c_X5_removeReading {l : Launch} {D : va_G} {cI cJ cM cS : ClassId} {n0 : Nat} {a1 : Int32} {a2 : Int32} {σ : z_S} {Q : Int32 → z_S → Prop} (hf : w_X5_removeReading a1 a2 σ Q) : z_ci l D cI cJ cM cS n0 yX5_removeReading cX5_removeReading 4 .int rm_X5_removeReading 26 289 [.ref (n0 + 0), .int a1, .int a2] σ Q := by
  refine z_ofi (by decide +kernel) (Nat.le_of_ble_eq_true rfl) (fun p e s m args below meth c hX hY => ?_)
  unfold w_X5_removeReading at hf
  refine zt_L (L' := [(0, .ref (n0 + 0)), (1, .int a1), (2, .int a2)]) rfl ?_
  refine zt_aload_n hX 0 dX5_removeReading_0 rfl rfl ?_
  refine zt_get_X5 hX (by decide) (zE_0 _ _) 0 (by decide) kw_234 rfl rfl dX5_removeReading_1 ?_
  refine zt_iload_n hX 1 dX5_removeReading_4 rfl rfl ?_
  refine zt_calliV hX hY (av := [.int a1]) (c_X4_has hf) dX5_removeReading_5 rfl kw_254 kw_255 kw_256 kw_62 kw_257 ⟨rfl, rfl⟩ hy_X4_has ⟨by decide, by decide⟩ ⟨by decide, by decide⟩ (Nat.le_of_ble_eq_true rfl) (by decide) (zE_1 _ _) rfl rfl (fun r1 σ2 hf => ?_)
  refine zt_if_eq hX dX5_removeReading_8 (tgt := 18) (by decide) (fun c3 => ?_) (fun c3 => ?_)
  · replace hf := z_pos hf c3
    refine zt_ldc hX dX5_removeReading_18 kw_258 ?_
    refine zt_widen (c1 := 26) (s1 := 289) (by decide) (by decide) ?_
    exact zt_iret hX hY dX5_removeReading_20 hf
  · replace hf := z_neg hf c3
    refine zt_iload_n hX 2 dX5_removeReading_11 rfl rfl ?_
    refine zt_calliS hX hY (av := [.int a2]) (c_X5_isBoundary hf) dX5_removeReading_12 rfl kw_334 kw_335 kw_61 kw_336 ⟨rfl, rfl⟩ hy_X5_isBoundary ⟨by decide, by decide⟩ ⟨by decide, by decide⟩ (Nat.le_of_ble_eq_true rfl) (fun r4 σ5 hf => ?_)
    refine zt_if_ne hX dX5_removeReading_15 (tgt := 21) (by decide) (fun c6 => ?_) (fun c6 => ?_)
    · replace hf := z_neg hf c6
      refine zt_aload_n hX 0 dX5_removeReading_21 rfl rfl ?_
      refine zt_get_X5 hX (by decide) (zE_0 _ _) 1 (by decide) kw_235 rfl rfl dX5_removeReading_22 ?_
      refine zt_aload_n hX 0 dX5_removeReading_25 rfl rfl ?_
      refine zt_get_X5 hX (by decide) (zE_0 _ _) 0 (by decide) kw_234 rfl rfl dX5_removeReading_26 ?_
      refine zt_callvV hX hY (av := [.ref (n0 + 1)]) (c_X2_push hf) dX5_removeReading_29 rfl kw_260 kw_261 kw_262 kw_63 kw_263 ⟨rfl, rfl⟩ hy_X2_push ⟨by decide, by decide⟩ ⟨by decide, by decide⟩ (Nat.le_of_ble_eq_true rfl) (by decide) (zE_27 _ _) rfl rfl (fun σ8 hf => ?_)
      refine zt_aload_n hX 0 dX5_removeReading_32 rfl rfl ?_
      refine zt_get_X5 hX (by decide) (zE_0 _ _) 0 (by decide) kw_234 rfl rfl dX5_removeReading_33 ?_
      refine zt_get_X4 hX (by decide) (zE_1 _ _) 9 (by decide) kw_115 rfl rfl dX5_removeReading_36 ?_
      refine zt_iload_n hX 1 dX5_removeReading_39 rfl rfl ?_
      obtain ⟨h9, hf⟩ := hf
      refine zt_aaloadM hX dX5_removeReading_40 (by decide) rfl (k1 := 8) rfl h9 ?_
      refine zt_iload_n hX 2 dX5_removeReading_41 rfl rfl ?_
      obtain ⟨h10, hf⟩ := hf
      refine zt_iaload hX dX5_removeReading_42 (z_row8 (z_lt h9)) (z_sh8 (z_lt h9)) h10 ?_
      refine zt_nmi (fun y11 e11 => ?_)
      replace hf := hf y11 e11
      refine zt_istore_n (L' := [(3, .int y11), (0, .ref (n0 + 0)), (1, .int a1), (2, .int a2)]) hX dX5_removeReading_43 rfl (by decide) rfl ?_
      refine zt_aload_n hX 1 dX5_removeReading_44 rfl rfl ?_
      refine zt_get_X5 hX (by decide) (zE_0 _ _) 0 (by decide) kw_234 rfl rfl dX5_removeReading_45 ?_
      refine zt_get_X4 hX (by decide) (zE_1 _ _) 9 (by decide) kw_115 rfl rfl dX5_removeReading_48 ?_
      refine zt_iload_n hX 2 dX5_removeReading_51 rfl rfl ?_
      obtain ⟨h12, hf⟩ := hf
      refine zt_aaloadM hX dX5_removeReading_52 (by decide) rfl (k1 := 8) rfl h12 ?_
      refine zt_iload_n hX 3 dX5_removeReading_53 rfl rfl ?_
      refine zt_ldc hX dX5_removeReading_54 kw_329 ?_
      obtain ⟨h13, hf⟩ := hf
      refine zt_iastore hX dX5_removeReading_56 (z_row8 (z_lt h12)) (z_sh8 (z_lt h12)) h13 ?_
      refine zt_nms (fun σ14 d14 => ?_)
      replace hf := hf σ14 d14
      refine zt_iload_n hX 0 dX5_removeReading_57 rfl rfl ?_
      exact zt_iret hX hY dX5_removeReading_58 hf
    · replace hf := z_pos hf c6
      refine zt_ldc hX dX5_removeReading_18 kw_258 ?_
      refine zt_widen (c1 := 26) (s1 := 289) (by decide) (by decide) ?_
      exact zt_iret hX hY dX5_removeReading_20 hf

theorem dX5_reading_0 : decode cX5_reading 0 = .ok (.aload_n 0, 1) := by decide +kernel
theorem dX5_reading_1 : decode cX5_reading 1 = .ok (.getfield 10, 3) := by decide +kernel
theorem dX5_reading_4 : decode cX5_reading 4 = .ok (.iload_n 1, 1) := by decide +kernel
theorem dX5_reading_5 : decode cX5_reading 5 = .ok (.invokevirtual 48, 3) := by decide +kernel
theorem dX5_reading_8 : decode cX5_reading 8 = .ok (.ifCond .eq 10, 3) := by decide +kernel
theorem dX5_reading_11 : decode cX5_reading 11 = .ok (.iload_n 2, 1) := by decide +kernel
theorem dX5_reading_12 : decode cX5_reading 12 = .ok (.invokestatic 105, 3) := by decide +kernel
theorem dX5_reading_15 : decode cX5_reading 15 = .ok (.ifCond .ne 6, 3) := by decide +kernel
theorem dX5_reading_18 : decode cX5_reading 18 = .ok (.ldc 52, 2) := by decide +kernel
theorem dX5_reading_20 : decode cX5_reading 20 = .ok (.ireturn, 1) := by decide +kernel
theorem dX5_reading_21 : decode cX5_reading 21 = .ok (.aload_n 0, 1) := by decide +kernel
theorem dX5_reading_22 : decode cX5_reading 22 = .ok (.getfield 10, 3) := by decide +kernel
theorem dX5_reading_25 : decode cX5_reading 25 = .ok (.getfield 111, 3) := by decide +kernel
theorem dX5_reading_28 : decode cX5_reading 28 = .ok (.iload_n 1, 1) := by decide +kernel
theorem dX5_reading_29 : decode cX5_reading 29 = .ok (.aaload, 1) := by decide +kernel
theorem dX5_reading_30 : decode cX5_reading 30 = .ok (.iload_n 2, 1) := by decide +kernel
theorem dX5_reading_31 : decode cX5_reading 31 = .ok (.iaload, 1) := by decide +kernel
theorem dX5_reading_32 : decode cX5_reading 32 = .ok (.ireturn, 1) := by decide +kernel
abbrev rm_X5_reading : Room := { frames := 2, cells := 0, slots := 0, locals := 42 }
theorem hy_X5_reading : yX5_reading.cls ≠ "java/lang/invoke/MethodHandle" ∧ yX5_reading.cls ≠ "java/lang/invoke/VarHandle" ∧ (parseMethodDescriptor yX5_reading.desc).map (fun d => d.parameters.length) = some 2 := by decide +kernel
def w_X5_reading (a1 : Int32) (a2 : Int32) (σ : z_S) (Q : Int32 → z_S → Prop) : Prop :=
  w_X4_has a1 σ (fun r1 σ2 => if r1 = 0 then (Q (-2000000001 : Int32) σ2) else (w_X5_isBoundary a2 σ2 (fun r4 σ5 => if r4 = 0 then (Q (-2000000001 : Int32) σ5) else (vp_in a1 10 ∧ vp_in a2 13 ∧ Q (zg_i σ5 (8 + a1.toNatClampNeg) a2.toNatClampNeg) σ5))))
set_option maxHeartbeats 4000000 in
set_option maxRecDepth 100000 in
theorem c_X5_reading {l : Launch} {D : va_G} {cI cJ cM cS : ClassId} {n0 : Nat} {a1 : Int32} {a2 : Int32} {σ : z_S} {Q : Int32 → z_S → Prop} (hf : w_X5_reading a1 a2 σ Q) : z_ci l D cI cJ cM cS n0 yX5_reading cX5_reading 3 .int rm_X5_reading 0 0 [.ref (n0 + 0), .int a1, .int a2] σ Q := by
  refine z_ofi (by decide +kernel) (Nat.le_of_ble_eq_true rfl) (fun p e s m args below meth c hX hY => ?_)
  unfold w_X5_reading at hf
  refine zt_L (L' := [(0, .ref (n0 + 0)), (1, .int a1), (2, .int a2)]) rfl ?_
  refine zt_aload_n hX 0 dX5_reading_0 rfl rfl ?_
  refine zt_get_X5 hX (by decide) (zE_0 _ _) 0 (by decide) kw_234 rfl rfl dX5_reading_1 ?_
  refine zt_iload_n hX 1 dX5_reading_4 rfl rfl ?_
  refine zt_calliV hX hY (av := [.int a1]) (c_X4_has hf) dX5_reading_5 rfl kw_254 kw_255 kw_256 kw_62 kw_257 ⟨rfl, rfl⟩ hy_X4_has ⟨by decide, by decide⟩ ⟨by decide, by decide⟩ (Nat.le_of_ble_eq_true rfl) (by decide) (zE_1 _ _) rfl rfl (fun r1 σ2 hf => ?_)
  refine zt_if_eq hX dX5_reading_8 (tgt := 18) (by decide) (fun c3 => ?_) (fun c3 => ?_)
  · replace hf := z_pos hf c3
    refine zt_ldc hX dX5_reading_18 kw_258 ?_
    exact zt_iret hX hY dX5_reading_20 hf
  · replace hf := z_neg hf c3
    refine zt_iload_n hX 2 dX5_reading_11 rfl rfl ?_
    refine zt_calliS hX hY (av := [.int a2]) (c_X5_isBoundary hf) dX5_reading_12 rfl kw_334 kw_335 kw_61 kw_336 ⟨rfl, rfl⟩ hy_X5_isBoundary ⟨by decide, by decide⟩ ⟨by decide, by decide⟩ (Nat.le_of_ble_eq_true rfl) (fun r4 σ5 hf => ?_)
    refine zt_if_ne hX dX5_reading_15 (tgt := 21) (by decide) (fun c6 => ?_) (fun c6 => ?_)
    · replace hf := z_neg hf c6
      refine zt_aload_n hX 0 dX5_reading_21 rfl rfl ?_
      refine zt_get_X5 hX (by decide) (zE_0 _ _) 0 (by decide) kw_234 rfl rfl dX5_reading_22 ?_
      refine zt_get_X4 hX (by decide) (zE_1 _ _) 9 (by decide) kw_115 rfl rfl dX5_reading_25 ?_
      refine zt_iload_n hX 1 dX5_reading_28 rfl rfl ?_
      obtain ⟨h7, hf⟩ := hf
      refine zt_aaloadM hX dX5_reading_29 (by decide) rfl (k1 := 8) rfl h7 ?_
      refine zt_iload_n hX 2 dX5_reading_30 rfl rfl ?_
      obtain ⟨h8, hf⟩ := hf
      refine zt_iaload hX dX5_reading_31 (z_row8 (z_lt h7)) (z_sh8 (z_lt h7)) h8 ?_
      exact zt_iret hX hY dX5_reading_32 hf
    · replace hf := z_pos hf c6
      refine zt_ldc hX dX5_reading_18 kw_258 ?_
      exact zt_iret hX hY dX5_reading_20 hf

theorem dX5_isInterval_0 : decode cX5_isInterval 0 = .ok (.iload_n 0, 1) := by decide +kernel
theorem dX5_isInterval_1 : decode cX5_isInterval 1 = .ok (.iconst 0, 1) := by decide +kernel
theorem dX5_isInterval_2 : decode cX5_isInterval 2 = .ok (.bipush 11, 2) := by decide +kernel
theorem dX5_isInterval_4 : decode cX5_isInterval 4 = .ok (.invokestatic 62, 3) := by decide +kernel
theorem dX5_isInterval_7 : decode cX5_isInterval 7 = .ok (.ireturn, 1) := by decide +kernel
abbrev rm_X5_isInterval : Room := { frames := 1, cells := 0, slots := 0, locals := 22 }
theorem hy_X5_isInterval : yX5_isInterval.cls ≠ "java/lang/invoke/MethodHandle" ∧ yX5_isInterval.cls ≠ "java/lang/invoke/VarHandle" ∧ (parseMethodDescriptor yX5_isInterval.desc).map (fun d => d.parameters.length) = some 1 := by decide +kernel
def w_X5_isInterval (a0 : Int32) (σ : z_S) (Q : Int32 → z_S → Prop) : Prop :=
  w_X5_within a0 (0 : Int32) (11 : Int32) σ (fun r1 σ2 => (r1 = 0 ∨ r1 = 1) ∧ Q r1 σ2)
set_option maxHeartbeats 4000000 in
set_option maxRecDepth 100000 in
theorem c_X5_isInterval {l : Launch} {D : va_G} {cI cJ cM cS : ClassId} {n0 : Nat} {a0 : Int32} {σ : z_S} {Q : Int32 → z_S → Prop} (hf : w_X5_isInterval a0 σ Q) : z_ci l D cI cJ cM cS n0 yX5_isInterval cX5_isInterval 1 .boolean rm_X5_isInterval 0 0 [.int a0] σ Q := by
  refine z_ofi (by decide +kernel) (Nat.le_of_ble_eq_true rfl) (fun p e s m args below meth c hX hY => ?_)
  unfold w_X5_isInterval at hf
  refine zt_L (L' := [(0, .int a0)]) rfl ?_
  refine zt_iload_n hX 0 dX5_isInterval_0 rfl rfl ?_
  refine zt_iconst hX dX5_isInterval_1 (v := (0 : Int32)) (by decide) ?_
  refine zt_bipush hX dX5_isInterval_2 (v := (11 : Int32)) (by decide) ?_
  refine zt_calliS hX hY (av := [.int a0, .int (0 : Int32), .int (11 : Int32)]) (c_X5_within hf) dX5_isInterval_4 rfl kw_290 kw_291 kw_61 kw_292 ⟨rfl, rfl⟩ hy_X5_within ⟨by decide, by decide⟩ ⟨by decide, by decide⟩ (Nat.le_of_ble_eq_true rfl) (fun r1 σ2 hf => ?_)
  exact zt_zret hX hY dX5_isInterval_7 hf

theorem dX5_raw_0 : decode cX5_raw 0 = .ok (.aload_n 0, 1) := by decide +kernel
theorem dX5_raw_1 : decode cX5_raw 1 = .ok (.getfield 10, 3) := by decide +kernel
theorem dX5_raw_4 : decode cX5_raw 4 = .ok (.iload_n 1, 1) := by decide +kernel
theorem dX5_raw_5 : decode cX5_raw 5 = .ok (.invokevirtual 48, 3) := by decide +kernel
theorem dX5_raw_8 : decode cX5_raw 8 = .ok (.ifCond .eq 10, 3) := by decide +kernel
theorem dX5_raw_11 : decode cX5_raw 11 = .ok (.iload_n 2, 1) := by decide +kernel
theorem dX5_raw_12 : decode cX5_raw 12 = .ok (.invokestatic 115, 3) := by decide +kernel
theorem dX5_raw_15 : decode cX5_raw 15 = .ok (.ifCond .ne 6, 3) := by decide +kernel
theorem dX5_raw_18 : decode cX5_raw 18 = .ok (.ldc 52, 2) := by decide +kernel
theorem dX5_raw_20 : decode cX5_raw 20 = .ok (.ireturn, 1) := by decide +kernel
theorem dX5_raw_21 : decode cX5_raw 21 = .ok (.aload_n 0, 1) := by decide +kernel
theorem dX5_raw_22 : decode cX5_raw 22 = .ok (.getfield 10, 3) := by decide +kernel
theorem dX5_raw_25 : decode cX5_raw 25 = .ok (.iload_n 1, 1) := by decide +kernel
theorem dX5_raw_26 : decode cX5_raw 26 = .ok (.iload_n 2, 1) := by decide +kernel
theorem dX5_raw_27 : decode cX5_raw 27 = .ok (.iload_n 2, 1) := by decide +kernel
theorem dX5_raw_28 : decode cX5_raw 28 = .ok (.iconst 1, 1) := by decide +kernel
theorem dX5_raw_29 : decode cX5_raw 29 = .ok (.iadd, 1) := by decide +kernel
theorem dX5_raw_30 : decode cX5_raw 30 = .ok (.invokevirtual 118, 3) := by decide +kernel
theorem dX5_raw_33 : decode cX5_raw 33 = .ok (.ireturn, 1) := by decide +kernel
abbrev rm_X5_raw : Room := { frames := 2, cells := 0, slots := 0, locals := 46 }
theorem hy_X5_raw : yX5_raw.cls ≠ "java/lang/invoke/MethodHandle" ∧ yX5_raw.cls ≠ "java/lang/invoke/VarHandle" ∧ (parseMethodDescriptor yX5_raw.desc).map (fun d => d.parameters.length) = some 2 := by decide +kernel
def w_X5_raw (a1 : Int32) (a2 : Int32) (σ : z_S) (Q : Int32 → z_S → Prop) : Prop :=
  w_X4_has a1 σ (fun r1 σ2 => if r1 = 0 then (Q (-2000000001 : Int32) σ2) else (w_X5_isInterval a2 σ2 (fun r4 σ5 => if r4 = 0 then (Q (-2000000001 : Int32) σ5) else (w_X4_advance a1 a2 (a2 + (1 : Int32)) σ5 (fun r7 σ8 => Q r7 σ8)))))
set_option maxHeartbeats 4000000 in
set_option maxRecDepth 100000 in
theorem c_X5_raw {l : Launch} {D : va_G} {cI cJ cM cS : ClassId} {n0 : Nat} {a1 : Int32} {a2 : Int32} {σ : z_S} {Q : Int32 → z_S → Prop} (hf : w_X5_raw a1 a2 σ Q) : z_ci l D cI cJ cM cS n0 yX5_raw cX5_raw 3 .int rm_X5_raw 0 0 [.ref (n0 + 0), .int a1, .int a2] σ Q := by
  refine z_ofi (by decide +kernel) (Nat.le_of_ble_eq_true rfl) (fun p e s m args below meth c hX hY => ?_)
  unfold w_X5_raw at hf
  refine zt_L (L' := [(0, .ref (n0 + 0)), (1, .int a1), (2, .int a2)]) rfl ?_
  refine zt_aload_n hX 0 dX5_raw_0 rfl rfl ?_
  refine zt_get_X5 hX (by decide) (zE_0 _ _) 0 (by decide) kw_234 rfl rfl dX5_raw_1 ?_
  refine zt_iload_n hX 1 dX5_raw_4 rfl rfl ?_
  refine zt_calliV hX hY (av := [.int a1]) (c_X4_has hf) dX5_raw_5 rfl kw_254 kw_255 kw_256 kw_62 kw_257 ⟨rfl, rfl⟩ hy_X4_has ⟨by decide, by decide⟩ ⟨by decide, by decide⟩ (Nat.le_of_ble_eq_true rfl) (by decide) (zE_1 _ _) rfl rfl (fun r1 σ2 hf => ?_)
  refine zt_if_eq hX dX5_raw_8 (tgt := 18) (by decide) (fun c3 => ?_) (fun c3 => ?_)
  · replace hf := z_pos hf c3
    refine zt_ldc hX dX5_raw_18 kw_258 ?_
    exact zt_iret hX hY dX5_raw_20 hf
  · replace hf := z_neg hf c3
    refine zt_iload_n hX 2 dX5_raw_11 rfl rfl ?_
    refine zt_calliS hX hY (av := [.int a2]) (c_X5_isInterval hf) dX5_raw_12 rfl kw_359 kw_360 kw_61 kw_361 ⟨rfl, rfl⟩ hy_X5_isInterval ⟨by decide, by decide⟩ ⟨by decide, by decide⟩ (Nat.le_of_ble_eq_true rfl) (fun r4 σ5 hf => ?_)
    refine zt_if_ne hX dX5_raw_15 (tgt := 21) (by decide) (fun c6 => ?_) (fun c6 => ?_)
    · replace hf := z_neg hf c6
      refine zt_aload_n hX 0 dX5_raw_21 rfl rfl ?_
      refine zt_get_X5 hX (by decide) (zE_0 _ _) 0 (by decide) kw_234 rfl rfl dX5_raw_22 ?_
      refine zt_iload_n hX 1 dX5_raw_25 rfl rfl ?_
      refine zt_iload_n hX 2 dX5_raw_26 rfl rfl ?_
      refine zt_iload_n hX 2 dX5_raw_27 rfl rfl ?_
      refine zt_iconst hX dX5_raw_28 (v := (1 : Int32)) (by decide) ?_
      refine zt_iadd hX dX5_raw_29 ?_
      refine zt_calliV hX hY (av := [.int a1, .int a2, .int (a2 + (1 : Int32))]) (c_X4_advance hf) dX5_raw_30 rfl kw_362 kw_363 kw_364 kw_62 kw_365 ⟨rfl, rfl⟩ hy_X4_advance ⟨by decide, by decide⟩ ⟨by decide, by decide⟩ (Nat.le_of_ble_eq_true rfl) (by decide) (zE_1 _ _) rfl rfl (fun r7 σ8 hf => ?_)
      exact zt_iret hX hY dX5_raw_33 hf
    · replace hf := z_pos hf c6
      refine zt_ldc hX dX5_raw_18 kw_258 ?_
      exact zt_iret hX hY dX5_raw_20 hf

theorem dX5_status_0 : decode cX5_status 0 = .ok (.aload_n 0, 1) := by decide +kernel
theorem dX5_status_1 : decode cX5_status 1 = .ok (.getfield 10, 3) := by decide +kernel
theorem dX5_status_4 : decode cX5_status 4 = .ok (.iload_n 1, 1) := by decide +kernel
theorem dX5_status_5 : decode cX5_status 5 = .ok (.invokevirtual 48, 3) := by decide +kernel
theorem dX5_status_8 : decode cX5_status 8 = .ok (.ifCond .eq 10, 3) := by decide +kernel
theorem dX5_status_11 : decode cX5_status 11 = .ok (.iload_n 2, 1) := by decide +kernel
theorem dX5_status_12 : decode cX5_status 12 = .ok (.invokestatic 115, 3) := by decide +kernel
theorem dX5_status_15 : decode cX5_status 15 = .ok (.ifCond .ne 6, 3) := by decide +kernel
theorem dX5_status_18 : decode cX5_status 18 = .ok (.ldc 52, 2) := by decide +kernel
theorem dX5_status_20 : decode cX5_status 20 = .ok (.ireturn, 1) := by decide +kernel
theorem dX5_status_21 : decode cX5_status 21 = .ok (.aload_n 0, 1) := by decide +kernel
theorem dX5_status_22 : decode cX5_status 22 = .ok (.getfield 10, 3) := by decide +kernel
theorem dX5_status_25 : decode cX5_status 25 = .ok (.iload_n 1, 1) := by decide +kernel
theorem dX5_status_26 : decode cX5_status 26 = .ok (.iload_n 2, 1) := by decide +kernel
theorem dX5_status_27 : decode cX5_status 27 = .ok (.invokevirtual 122, 3) := by decide +kernel
theorem dX5_status_30 : decode cX5_status 30 = .ok (.ireturn, 1) := by decide +kernel
abbrev rm_X5_status : Room := { frames := 3, cells := 0, slots := 0, locals := 71 }
theorem hy_X5_status : yX5_status.cls ≠ "java/lang/invoke/MethodHandle" ∧ yX5_status.cls ≠ "java/lang/invoke/VarHandle" ∧ (parseMethodDescriptor yX5_status.desc).map (fun d => d.parameters.length) = some 2 := by decide +kernel
def w_X5_status (a1 : Int32) (a2 : Int32) (σ : z_S) (Q : Int32 → z_S → Prop) : Prop :=
  w_X4_has a1 σ (fun r1 σ2 => if r1 = 0 then (Q (-2000000001 : Int32) σ2) else (w_X5_isInterval a2 σ2 (fun r4 σ5 => if r4 = 0 then (Q (-2000000001 : Int32) σ5) else (w_X4_judge a1 a2 σ5 (fun r7 σ8 => Q r7 σ8)))))
set_option maxHeartbeats 4000000 in
set_option maxRecDepth 100000 in
theorem c_X5_status {l : Launch} {D : va_G} {cI cJ cM cS : ClassId} {n0 : Nat} {a1 : Int32} {a2 : Int32} {σ : z_S} {Q : Int32 → z_S → Prop} (hf : w_X5_status a1 a2 σ Q) : z_ci l D cI cJ cM cS n0 yX5_status cX5_status 3 .int rm_X5_status 0 0 [.ref (n0 + 0), .int a1, .int a2] σ Q := by
  refine z_ofi (by decide +kernel) (Nat.le_of_ble_eq_true rfl) (fun p e s m args below meth c hX hY => ?_)
  unfold w_X5_status at hf
  refine zt_L (L' := [(0, .ref (n0 + 0)), (1, .int a1), (2, .int a2)]) rfl ?_
  refine zt_aload_n hX 0 dX5_status_0 rfl rfl ?_
  refine zt_get_X5 hX (by decide) (zE_0 _ _) 0 (by decide) kw_234 rfl rfl dX5_status_1 ?_
  refine zt_iload_n hX 1 dX5_status_4 rfl rfl ?_
  refine zt_calliV hX hY (av := [.int a1]) (c_X4_has hf) dX5_status_5 rfl kw_254 kw_255 kw_256 kw_62 kw_257 ⟨rfl, rfl⟩ hy_X4_has ⟨by decide, by decide⟩ ⟨by decide, by decide⟩ (Nat.le_of_ble_eq_true rfl) (by decide) (zE_1 _ _) rfl rfl (fun r1 σ2 hf => ?_)
  refine zt_if_eq hX dX5_status_8 (tgt := 18) (by decide) (fun c3 => ?_) (fun c3 => ?_)
  · replace hf := z_pos hf c3
    refine zt_ldc hX dX5_status_18 kw_258 ?_
    exact zt_iret hX hY dX5_status_20 hf
  · replace hf := z_neg hf c3
    refine zt_iload_n hX 2 dX5_status_11 rfl rfl ?_
    refine zt_calliS hX hY (av := [.int a2]) (c_X5_isInterval hf) dX5_status_12 rfl kw_359 kw_360 kw_61 kw_361 ⟨rfl, rfl⟩ hy_X5_isInterval ⟨by decide, by decide⟩ ⟨by decide, by decide⟩ (Nat.le_of_ble_eq_true rfl) (fun r4 σ5 hf => ?_)
    refine zt_if_ne hX dX5_status_15 (tgt := 21) (by decide) (fun c6 => ?_) (fun c6 => ?_)
    · replace hf := z_neg hf c6
      refine zt_aload_n hX 0 dX5_status_21 rfl rfl ?_
      refine zt_get_X5 hX (by decide) (zE_0 _ _) 0 (by decide) kw_234 rfl rfl dX5_status_22 ?_
      refine zt_iload_n hX 1 dX5_status_25 rfl rfl ?_
      refine zt_iload_n hX 2 dX5_status_26 rfl rfl ?_
      refine zt_calliV hX hY (av := [.int a1, .int a2]) (c_X4_judge hf) dX5_status_27 rfl kw_371 kw_372 kw_373 kw_62 kw_374 ⟨rfl, rfl⟩ hy_X4_judge ⟨by decide, by decide⟩ ⟨by decide, by decide⟩ (Nat.le_of_ble_eq_true rfl) (by decide) (zE_1 _ _) rfl rfl (fun r7 σ8 hf => ?_)
      exact zt_iret hX hY dX5_status_30 hf
    · replace hf := z_pos hf c6
      refine zt_ldc hX dX5_status_18 kw_258 ?_
      exact zt_iret hX hY dX5_status_20 hf

theorem dX5_energy_0 : decode cX5_energy 0 = .ok (.aload_n 0, 1) := by decide +kernel
theorem dX5_energy_1 : decode cX5_energy 1 = .ok (.getfield 10, 3) := by decide +kernel
theorem dX5_energy_4 : decode cX5_energy 4 = .ok (.iload_n 1, 1) := by decide +kernel
theorem dX5_energy_5 : decode cX5_energy 5 = .ok (.invokevirtual 48, 3) := by decide +kernel
theorem dX5_energy_8 : decode cX5_energy 8 = .ok (.ifCond .eq 10, 3) := by decide +kernel
theorem dX5_energy_11 : decode cX5_energy 11 = .ok (.iload_n 2, 1) := by decide +kernel
theorem dX5_energy_12 : decode cX5_energy 12 = .ok (.invokestatic 115, 3) := by decide +kernel
theorem dX5_energy_15 : decode cX5_energy 15 = .ok (.ifCond .ne 6, 3) := by decide +kernel
theorem dX5_energy_18 : decode cX5_energy 18 = .ok (.ldc 52, 2) := by decide +kernel
theorem dX5_energy_20 : decode cX5_energy 20 = .ok (.ireturn, 1) := by decide +kernel
theorem dX5_energy_21 : decode cX5_energy 21 = .ok (.aload_n 0, 1) := by decide +kernel
theorem dX5_energy_22 : decode cX5_energy 22 = .ok (.getfield 26, 3) := by decide +kernel
theorem dX5_energy_25 : decode cX5_energy 25 = .ok (.aload_n 0, 1) := by decide +kernel
theorem dX5_energy_26 : decode cX5_energy 26 = .ok (.getfield 10, 3) := by decide +kernel
theorem dX5_energy_29 : decode cX5_energy 29 = .ok (.iload_n 1, 1) := by decide +kernel
theorem dX5_energy_30 : decode cX5_energy 30 = .ok (.invokevirtual 125, 3) := by decide +kernel
theorem dX5_energy_33 : decode cX5_energy 33 = .ok (.aload_n 0, 1) := by decide +kernel
theorem dX5_energy_34 : decode cX5_energy 34 = .ok (.getfield 26, 3) := by decide +kernel
theorem dX5_energy_37 : decode cX5_energy 37 = .ok (.getfield 129, 3) := by decide +kernel
theorem dX5_energy_40 : decode cX5_energy 40 = .ok (.iload_n 1, 1) := by decide +kernel
theorem dX5_energy_41 : decode cX5_energy 41 = .ok (.aaload, 1) := by decide +kernel
theorem dX5_energy_42 : decode cX5_energy 42 = .ok (.iload_n 2, 1) := by decide +kernel
theorem dX5_energy_43 : decode cX5_energy 43 = .ok (.iaload, 1) := by decide +kernel
theorem dX5_energy_44 : decode cX5_energy 44 = .ok (.ireturn, 1) := by decide +kernel
abbrev rm_X5_energy : Room := { frames := 4, cells := 0, slots := 0, locals := 96 }
theorem hy_X5_energy : yX5_energy.cls ≠ "java/lang/invoke/MethodHandle" ∧ yX5_energy.cls ≠ "java/lang/invoke/VarHandle" ∧ (parseMethodDescriptor yX5_energy.desc).map (fun d => d.parameters.length) = some 2 := by decide +kernel
def w_X5_energy (a1 : Int32) (a2 : Int32) (σ : z_S) (Q : Int32 → z_S → Prop) : Prop :=
  w_X4_has a1 σ (fun r1 σ2 => if r1 = 0 then (Q (-2000000001 : Int32) σ2) else (w_X5_isInterval a2 σ2 (fun r4 σ5 => if r4 = 0 then (Q (-2000000001 : Int32) σ5) else (w_X1_measure a1 σ5 (fun σ8 => vp_in a1 10 ∧ vp_in a2 12 ∧ Q (zg_i σ8 (31 + a1.toNatClampNeg) a2.toNatClampNeg) σ8)))))
set_option maxHeartbeats 4000000 in
set_option maxRecDepth 100000 in
theorem c_X5_energy {l : Launch} {D : va_G} {cI cJ cM cS : ClassId} {n0 : Nat} {a1 : Int32} {a2 : Int32} {σ : z_S} {Q : Int32 → z_S → Prop} (hf : w_X5_energy a1 a2 σ Q) : z_ci l D cI cJ cM cS n0 yX5_energy cX5_energy 3 .int rm_X5_energy 0 0 [.ref (n0 + 0), .int a1, .int a2] σ Q := by
  refine z_ofi (by decide +kernel) (Nat.le_of_ble_eq_true rfl) (fun p e s m args below meth c hX hY => ?_)
  unfold w_X5_energy at hf
  refine zt_L (L' := [(0, .ref (n0 + 0)), (1, .int a1), (2, .int a2)]) rfl ?_
  refine zt_aload_n hX 0 dX5_energy_0 rfl rfl ?_
  refine zt_get_X5 hX (by decide) (zE_0 _ _) 0 (by decide) kw_234 rfl rfl dX5_energy_1 ?_
  refine zt_iload_n hX 1 dX5_energy_4 rfl rfl ?_
  refine zt_calliV hX hY (av := [.int a1]) (c_X4_has hf) dX5_energy_5 rfl kw_254 kw_255 kw_256 kw_62 kw_257 ⟨rfl, rfl⟩ hy_X4_has ⟨by decide, by decide⟩ ⟨by decide, by decide⟩ (Nat.le_of_ble_eq_true rfl) (by decide) (zE_1 _ _) rfl rfl (fun r1 σ2 hf => ?_)
  refine zt_if_eq hX dX5_energy_8 (tgt := 18) (by decide) (fun c3 => ?_) (fun c3 => ?_)
  · replace hf := z_pos hf c3
    refine zt_ldc hX dX5_energy_18 kw_258 ?_
    exact zt_iret hX hY dX5_energy_20 hf
  · replace hf := z_neg hf c3
    refine zt_iload_n hX 2 dX5_energy_11 rfl rfl ?_
    refine zt_calliS hX hY (av := [.int a2]) (c_X5_isInterval hf) dX5_energy_12 rfl kw_359 kw_360 kw_61 kw_361 ⟨rfl, rfl⟩ hy_X5_isInterval ⟨by decide, by decide⟩ ⟨by decide, by decide⟩ (Nat.le_of_ble_eq_true rfl) (fun r4 σ5 hf => ?_)
    refine zt_if_ne hX dX5_energy_15 (tgt := 21) (by decide) (fun c6 => ?_) (fun c6 => ?_)
    · replace hf := z_neg hf c6
      refine zt_aload_n hX 0 dX5_energy_21 rfl rfl ?_
      refine zt_get_X5 hX (by decide) (zE_0 _ _) 2 (by decide) kw_236 rfl rfl dX5_energy_22 ?_
      refine zt_aload_n hX 0 dX5_energy_25 rfl rfl ?_
      refine zt_get_X5 hX (by decide) (zE_0 _ _) 0 (by decide) kw_234 rfl rfl dX5_energy_26 ?_
      refine zt_iload_n hX 1 dX5_energy_29 rfl rfl ?_
      refine zt_callvV hX hY (av := [.ref (n0 + 1), .int a1]) (c_X1_measure hf) dX5_energy_30 rfl kw_383 kw_384 kw_385 kw_64 kw_386 ⟨rfl, rfl⟩ hy_X1_measure ⟨by decide, by decide⟩ ⟨by decide, by decide⟩ (Nat.le_of_ble_eq_true rfl) (by decide) (zE_29 _ _) rfl rfl (fun σ8 hf => ?_)
      refine zt_aload_n hX 0 dX5_energy_33 rfl rfl ?_
      refine zt_get_X5 hX (by decide) (zE_0 _ _) 2 (by decide) kw_236 rfl rfl dX5_energy_34 ?_
      refine zt_get_X1 hX (by decide) (zE_29 _ _) 0 (by decide) kw_168 rfl rfl dX5_energy_37 ?_
      refine zt_iload_n hX 1 dX5_energy_40 rfl rfl ?_
      obtain ⟨h9, hf⟩ := hf
      refine zt_aaloadM hX dX5_energy_41 (by decide) rfl (k1 := 31) rfl h9 ?_
      refine zt_iload_n hX 2 dX5_energy_42 rfl rfl ?_
      obtain ⟨h10, hf⟩ := hf
      refine zt_iaload hX dX5_energy_43 (z_row31 (z_lt h9)) (z_sh31 (z_lt h9)) h10 ?_
      exact zt_iret hX hY dX5_energy_44 hf
    · replace hf := z_pos hf c6
      refine zt_ldc hX dX5_energy_18 kw_258 ?_
      exact zt_iret hX hY dX5_energy_20 hf

theorem dX5_quality_0 : decode cX5_quality 0 = .ok (.aload_n 0, 1) := by decide +kernel
theorem dX5_quality_1 : decode cX5_quality 1 = .ok (.getfield 10, 3) := by decide +kernel
theorem dX5_quality_4 : decode cX5_quality 4 = .ok (.iload_n 1, 1) := by decide +kernel
theorem dX5_quality_5 : decode cX5_quality 5 = .ok (.invokevirtual 48, 3) := by decide +kernel
theorem dX5_quality_8 : decode cX5_quality 8 = .ok (.ifCond .eq 10, 3) := by decide +kernel
theorem dX5_quality_11 : decode cX5_quality 11 = .ok (.iload_n 2, 1) := by decide +kernel
theorem dX5_quality_12 : decode cX5_quality 12 = .ok (.invokestatic 115, 3) := by decide +kernel
theorem dX5_quality_15 : decode cX5_quality 15 = .ok (.ifCond .ne 6, 3) := by decide +kernel
theorem dX5_quality_18 : decode cX5_quality 18 = .ok (.ldc 52, 2) := by decide +kernel
theorem dX5_quality_20 : decode cX5_quality 20 = .ok (.ireturn, 1) := by decide +kernel
theorem dX5_quality_21 : decode cX5_quality 21 = .ok (.aload_n 0, 1) := by decide +kernel
theorem dX5_quality_22 : decode cX5_quality 22 = .ok (.getfield 26, 3) := by decide +kernel
theorem dX5_quality_25 : decode cX5_quality 25 = .ok (.aload_n 0, 1) := by decide +kernel
theorem dX5_quality_26 : decode cX5_quality 26 = .ok (.getfield 10, 3) := by decide +kernel
theorem dX5_quality_29 : decode cX5_quality 29 = .ok (.iload_n 1, 1) := by decide +kernel
theorem dX5_quality_30 : decode cX5_quality 30 = .ok (.invokevirtual 125, 3) := by decide +kernel
theorem dX5_quality_33 : decode cX5_quality 33 = .ok (.aload_n 0, 1) := by decide +kernel
theorem dX5_quality_34 : decode cX5_quality 34 = .ok (.getfield 26, 3) := by decide +kernel
theorem dX5_quality_37 : decode cX5_quality 37 = .ok (.getfield 132, 3) := by decide +kernel
theorem dX5_quality_40 : decode cX5_quality 40 = .ok (.iload_n 1, 1) := by decide +kernel
theorem dX5_quality_41 : decode cX5_quality 41 = .ok (.aaload, 1) := by decide +kernel
theorem dX5_quality_42 : decode cX5_quality 42 = .ok (.iload_n 2, 1) := by decide +kernel
theorem dX5_quality_43 : decode cX5_quality 43 = .ok (.iaload, 1) := by decide +kernel
theorem dX5_quality_44 : decode cX5_quality 44 = .ok (.ireturn, 1) := by decide +kernel
abbrev rm_X5_quality : Room := { frames := 4, cells := 0, slots := 0, locals := 96 }
theorem hy_X5_quality : yX5_quality.cls ≠ "java/lang/invoke/MethodHandle" ∧ yX5_quality.cls ≠ "java/lang/invoke/VarHandle" ∧ (parseMethodDescriptor yX5_quality.desc).map (fun d => d.parameters.length) = some 2 := by decide +kernel
def w_X5_quality (a1 : Int32) (a2 : Int32) (σ : z_S) (Q : Int32 → z_S → Prop) : Prop :=
  w_X4_has a1 σ (fun r1 σ2 => if r1 = 0 then (Q (-2000000001 : Int32) σ2) else (w_X5_isInterval a2 σ2 (fun r4 σ5 => if r4 = 0 then (Q (-2000000001 : Int32) σ5) else (w_X1_measure a1 σ5 (fun σ8 => vp_in a1 10 ∧ vp_in a2 12 ∧ Q (zg_i σ8 (42 + a1.toNatClampNeg) a2.toNatClampNeg) σ8)))))
set_option maxHeartbeats 4000000 in
set_option maxRecDepth 100000 in
theorem c_X5_quality {l : Launch} {D : va_G} {cI cJ cM cS : ClassId} {n0 : Nat} {a1 : Int32} {a2 : Int32} {σ : z_S} {Q : Int32 → z_S → Prop} (hf : w_X5_quality a1 a2 σ Q) : z_ci l D cI cJ cM cS n0 yX5_quality cX5_quality 3 .int rm_X5_quality 0 0 [.ref (n0 + 0), .int a1, .int a2] σ Q := by
  refine z_ofi (by decide +kernel) (Nat.le_of_ble_eq_true rfl) (fun p e s m args below meth c hX hY => ?_)
  unfold w_X5_quality at hf
  refine zt_L (L' := [(0, .ref (n0 + 0)), (1, .int a1), (2, .int a2)]) rfl ?_
  refine zt_aload_n hX 0 dX5_quality_0 rfl rfl ?_
  refine zt_get_X5 hX (by decide) (zE_0 _ _) 0 (by decide) kw_234 rfl rfl dX5_quality_1 ?_
  refine zt_iload_n hX 1 dX5_quality_4 rfl rfl ?_
  refine zt_calliV hX hY (av := [.int a1]) (c_X4_has hf) dX5_quality_5 rfl kw_254 kw_255 kw_256 kw_62 kw_257 ⟨rfl, rfl⟩ hy_X4_has ⟨by decide, by decide⟩ ⟨by decide, by decide⟩ (Nat.le_of_ble_eq_true rfl) (by decide) (zE_1 _ _) rfl rfl (fun r1 σ2 hf => ?_)
  refine zt_if_eq hX dX5_quality_8 (tgt := 18) (by decide) (fun c3 => ?_) (fun c3 => ?_)
  · replace hf := z_pos hf c3
    refine zt_ldc hX dX5_quality_18 kw_258 ?_
    exact zt_iret hX hY dX5_quality_20 hf
  · replace hf := z_neg hf c3
    refine zt_iload_n hX 2 dX5_quality_11 rfl rfl ?_
    refine zt_calliS hX hY (av := [.int a2]) (c_X5_isInterval hf) dX5_quality_12 rfl kw_359 kw_360 kw_61 kw_361 ⟨rfl, rfl⟩ hy_X5_isInterval ⟨by decide, by decide⟩ ⟨by decide, by decide⟩ (Nat.le_of_ble_eq_true rfl) (fun r4 σ5 hf => ?_)
    refine zt_if_ne hX dX5_quality_15 (tgt := 21) (by decide) (fun c6 => ?_) (fun c6 => ?_)
    · replace hf := z_neg hf c6
      refine zt_aload_n hX 0 dX5_quality_21 rfl rfl ?_
      refine zt_get_X5 hX (by decide) (zE_0 _ _) 2 (by decide) kw_236 rfl rfl dX5_quality_22 ?_
      refine zt_aload_n hX 0 dX5_quality_25 rfl rfl ?_
      refine zt_get_X5 hX (by decide) (zE_0 _ _) 0 (by decide) kw_234 rfl rfl dX5_quality_26 ?_
      refine zt_iload_n hX 1 dX5_quality_29 rfl rfl ?_
      refine zt_callvV hX hY (av := [.ref (n0 + 1), .int a1]) (c_X1_measure hf) dX5_quality_30 rfl kw_383 kw_384 kw_385 kw_64 kw_386 ⟨rfl, rfl⟩ hy_X1_measure ⟨by decide, by decide⟩ ⟨by decide, by decide⟩ (Nat.le_of_ble_eq_true rfl) (by decide) (zE_29 _ _) rfl rfl (fun σ8 hf => ?_)
      refine zt_aload_n hX 0 dX5_quality_33 rfl rfl ?_
      refine zt_get_X5 hX (by decide) (zE_0 _ _) 2 (by decide) kw_236 rfl rfl dX5_quality_34 ?_
      refine zt_get_X1 hX (by decide) (zE_29 _ _) 1 (by decide) kw_170 rfl rfl dX5_quality_37 ?_
      refine zt_iload_n hX 1 dX5_quality_40 rfl rfl ?_
      obtain ⟨h9, hf⟩ := hf
      refine zt_aaloadM hX dX5_quality_41 (by decide) rfl (k1 := 42) rfl h9 ?_
      refine zt_iload_n hX 2 dX5_quality_42 rfl rfl ?_
      obtain ⟨h10, hf⟩ := hf
      refine zt_iaload hX dX5_quality_43 (z_row42 (z_lt h9)) (z_sh42 (z_lt h9)) h10 ?_
      exact zt_iret hX hY dX5_quality_44 hf
    · replace hf := z_pos hf c6
      refine zt_ldc hX dX5_quality_18 kw_258 ?_
      exact zt_iret hX hY dX5_quality_20 hf

theorem dX5_countNotValid_0 : decode cX5_countNotValid 0 = .ok (.iconst 0, 1) := by decide +kernel
theorem dX5_countNotValid_1 : decode cX5_countNotValid 1 = .ok (.istore_n 2, 1) := by decide +kernel
theorem dX5_countNotValid_2 : decode cX5_countNotValid 2 = .ok (.iconst 0, 1) := by decide +kernel
theorem dX5_countNotValid_3 : decode cX5_countNotValid 3 = .ok (.istore_n 3, 1) := by decide +kernel
theorem dX5_countNotValid_4 : decode cX5_countNotValid 4 = .ok (.iload_n 3, 1) := by decide +kernel
theorem dX5_countNotValid_5 : decode cX5_countNotValid 5 = .ok (.bipush 12, 2) := by decide +kernel
theorem dX5_countNotValid_7 : decode cX5_countNotValid 7 = .ok (.if_icmp .ge 24, 3) := by decide +kernel
theorem dX5_countNotValid_10 : decode cX5_countNotValid 10 = .ok (.aload_n 0, 1) := by decide +kernel
theorem dX5_countNotValid_11 : decode cX5_countNotValid 11 = .ok (.getfield 10, 3) := by decide +kernel
theorem dX5_countNotValid_14 : decode cX5_countNotValid 14 = .ok (.iload_n 1, 1) := by decide +kernel
theorem dX5_countNotValid_15 : decode cX5_countNotValid 15 = .ok (.iload_n 3, 1) := by decide +kernel
theorem dX5_countNotValid_16 : decode cX5_countNotValid 16 = .ok (.invokevirtual 122, 3) := by decide +kernel
theorem dX5_countNotValid_19 : decode cX5_countNotValid 19 = .ok (.ifCond .eq 6, 3) := by decide +kernel
theorem dX5_countNotValid_22 : decode cX5_countNotValid 22 = .ok (.iinc 2 1, 3) := by decide +kernel
theorem dX5_countNotValid_25 : decode cX5_countNotValid 25 = .ok (.iinc 3 1, 3) := by decide +kernel
theorem dX5_countNotValid_28 : decode cX5_countNotValid 28 = .ok (.goto (-24), 3) := by decide +kernel
theorem dX5_countNotValid_31 : decode cX5_countNotValid 31 = .ok (.iload_n 2, 1) := by decide +kernel
theorem dX5_countNotValid_32 : decode cX5_countNotValid 32 = .ok (.ireturn, 1) := by decide +kernel
abbrev rm_X5_countNotValid : Room := { frames := 3, cells := 0, slots := 0, locals := 71 }
theorem hy_X5_countNotValid : yX5_countNotValid.cls ≠ "java/lang/invoke/MethodHandle" ∧ yX5_countNotValid.cls ≠ "java/lang/invoke/VarHandle" ∧ (parseMethodDescriptor yX5_countNotValid.desc).map (fun d => d.parameters.length) = some 1 := by decide +kernel
def w_X5_countNotValid_25 (k4 : Int32 → Int32 → Int32 → z_S → Prop) (Q : Int32 → z_S → Prop) (x1 : Int32) (x2 : Int32) (x3 : Int32) (σ : z_S) : Prop :=
  ∀ y5 : Int32, y5 = (x3 + (1 : Int32)) → k4 x1 x2 y5 σ
def wb_X5_countNotValid_4  (Q : Int32 → z_S → Prop) (k4 : Int32 → Int32 → Int32 → z_S → Prop) (x1 : Int32) (x2 : Int32) (x3 : Int32) (σ : z_S) : Prop :=
  if (12 : Int32) ≤ x3 then (Q x2 σ) else (w_X4_judge x1 x3 σ (fun r2 σ3 => if r2 = 0 then (w_X5_countNotValid_25 k4 Q x1 x2 x3 σ3) else (∀ y6 : Int32, y6 = (x2 + (1 : Int32)) → w_X5_countNotValid_25 k4 Q x1 y6 x3 σ3)))
def w_X5_countNotValid_4  (Q : Int32 → z_S → Prop) : Nat → Int32 → Int32 → Int32 → z_S → Prop
  | 0 => fun _ _ _ _ => False
  | n + 1 => wb_X5_countNotValid_4  Q (w_X5_countNotValid_4  Q n)
def w_X5_countNotValid (a1 : Int32) (σ : z_S) (Q : Int32 → z_S → Prop) : Prop :=
  w_X5_countNotValid_4 Q 400 a1 (0 : Int32) (0 : Int32) σ
set_option maxHeartbeats 4000000 in
set_option maxRecDepth 100000 in
theorem t_X5_countNotValid_25 {l : Launch} {D : va_G} {cI cJ cM cS : ClassId} {n0 : Nat} {p : Program} {e : Env} {s : State} {m : MethodId} {args : Array Value} {below : List Frame} {meth : Method} {c : Code} {k4 : Int32 → Int32 → Int32 → z_S → Prop} {Q : Int32 → z_S → Prop} (hX : z_X D cI cJ cM cS p s m args c cX5_countNotValid 4 yX5_countNotValid.cls) (hY : z_Y s meth (some .int)) (hk4 : ∀ (x1 : Int32) (x2 : Int32) (x3 : Int32) (σ : z_S), k4 x1 x2 x3 σ → z_t D cI cJ cM cS n0 p l e rm_X5_countNotValid s m args below meth c 4 (MQ below (va_Qi Q (fun u t => z_Bq D cI cJ cM cS n0 u t) (z_Ab n0)) args s 0 0 (z_Ab n0)) 0 0 4 [(0, .ref (n0 + 0)), (1, .int x1), (2, .int x2), (3, .int x3)] [] σ) (x1 : Int32) (x2 : Int32) (x3 : Int32) (σ : z_S) (hf : w_X5_countNotValid_25 k4 Q x1 x2 x3 σ) : z_t D cI cJ cM cS n0 p l e rm_X5_countNotValid s m args below meth c 4 (MQ below (va_Qi Q (fun u t => z_Bq D cI cJ cM cS n0 u t) (z_Ab n0)) args s 0 0 (z_Ab n0)) 0 0 25 [(0, .ref (n0 + 0)), (1, .int x1), (2, .int x2), (3, .int x3)] [] σ := by
  unfold w_X5_countNotValid_25 at hf
  obtain ⟨y5, e5⟩ : ∃ y : Int32, y = (x3 + (1 : Int32)) := ⟨_, rfl⟩
  replace hf := hf y5 e5
  refine zt_iinc (L' := [(3, .int y5), (0, .ref (n0 + 0)), (1, .int x1), (2, .int x2)]) hX 3 dX5_countNotValid_25 rfl (v := y5) (by rw [e5]; rfl) (by decide) rfl ?_
  refine zt_goto hX dX5_countNotValid_28 (tgt := 4) (by decide) ?_
  exact zt_sub [1, 2, 3, 0] rfl (hk4 _ _ _ _ hf)
set_option maxHeartbeats 4000000 in
set_option maxRecDepth 100000 in
theorem t_X5_countNotValid_4 {l : Launch} {D : va_G} {cI cJ cM cS : ClassId} {n0 : Nat} {p : Program} {e : Env} {s : State} {m : MethodId} {args : Array Value} {below : List Frame} {meth : Method} {c : Code}  {Q : Int32 → z_S → Prop} (hX : z_X D cI cJ cM cS p s m args c cX5_countNotValid 4 yX5_countNotValid.cls) (hY : z_Y s meth (some .int))  : ∀ (n : Nat) (x1 : Int32) (x2 : Int32) (x3 : Int32) (σ : z_S), w_X5_countNotValid_4  Q n x1 x2 x3 σ → z_t D cI cJ cM cS n0 p l e rm_X5_countNotValid s m args below meth c 4 (MQ below (va_Qi Q (fun u t => z_Bq D cI cJ cM cS n0 u t) (z_Ab n0)) args s 0 0 (z_Ab n0)) 0 0 4 [(0, .ref (n0 + 0)), (1, .int x1), (2, .int x2), (3, .int x3)] [] σ := by
  intro n
  induction n with
  | zero => intro _ _ _ _ hf; exact hf.elim
  | succ n ih4 =>
    intro x1 x2 x3 σ hf
    have hf : wb_X5_countNotValid_4  Q (w_X5_countNotValid_4  Q n) x1 x2 x3 σ := hf
    unfold wb_X5_countNotValid_4 at hf
    refine zt_iload_n hX 3 dX5_countNotValid_4 rfl rfl ?_
    refine zt_bipush hX dX5_countNotValid_5 (v := (12 : Int32)) (by decide) ?_
    refine zt_icmp_ge hX dX5_countNotValid_7 (tgt := 31) (by decide) (fun c1 => ?_) (fun c1 => ?_)
    · replace hf := z_pos hf c1
      refine zt_iload_n hX 2 dX5_countNotValid_31 rfl rfl ?_
      exact zt_iret hX hY dX5_countNotValid_32 hf
    · replace hf := z_neg hf c1
      refine zt_aload_n hX 0 dX5_countNotValid_10 rfl rfl ?_
      refine zt_get_X5 hX (by decide) (zE_0 _ _) 0 (by decide) kw_234 rfl rfl dX5_countNotValid_11 ?_
      refine zt_iload_n hX 1 dX5_countNotValid_14 rfl rfl ?_
      refine zt_iload_n hX 3 dX5_countNotValid_15 rfl rfl ?_
      refine zt_calliV hX hY (av := [.int x1, .int x3]) (c_X4_judge hf) dX5_countNotValid_16 rfl kw_371 kw_372 kw_373 kw_62 kw_374 ⟨rfl, rfl⟩ hy_X4_judge ⟨by decide, by decide⟩ ⟨by decide, by decide⟩ (Nat.le_of_ble_eq_true rfl) (by decide) (zE_1 _ _) rfl rfl (fun r2 σ3 hf => ?_)
      refine zt_if_eq hX dX5_countNotValid_19 (tgt := 25) (by decide) (fun c4 => ?_) (fun c4 => ?_)
      · replace hf := z_pos hf c4
        exact zt_sub [0, 1, 2, 3] rfl (t_X5_countNotValid_25 hX hY ih4 _ _ _ _ hf)
      · replace hf := z_neg hf c4
        obtain ⟨y6, e6⟩ : ∃ y : Int32, y = (x2 + (1 : Int32)) := ⟨_, rfl⟩
        replace hf := hf y6 e6
        refine zt_iinc (L' := [(2, .int y6), (0, .ref (n0 + 0)), (1, .int x1), (3, .int x3)]) hX 2 dX5_countNotValid_22 rfl (v := y6) (by rw [e6]; rfl) (by decide) rfl ?_
        exact zt_sub [1, 2, 0, 3] rfl (t_X5_countNotValid_25 hX hY ih4 _ _ _ _ hf)
set_option maxHeartbeats 4000000 in
set_option maxRecDepth 100000 in
theorem c_X5_countNotValid {l : Launch} {D : va_G} {cI cJ cM cS : ClassId} {n0 : Nat} {a1 : Int32} {σ : z_S} {Q : Int32 → z_S → Prop} (hf : w_X5_countNotValid a1 σ Q) : z_ci l D cI cJ cM cS n0 yX5_countNotValid cX5_countNotValid 4 .int rm_X5_countNotValid 0 0 [.ref (n0 + 0), .int a1] σ Q := by
  refine z_ofi (by decide +kernel) (Nat.le_of_ble_eq_true rfl) (fun p e s m args below meth c hX hY => ?_)
  unfold w_X5_countNotValid at hf
  refine zt_L (L' := [(0, .ref (n0 + 0)), (1, .int a1)]) rfl ?_
  refine zt_iconst hX dX5_countNotValid_0 (v := (0 : Int32)) (by decide) ?_
  refine zt_istore_n (L' := [(2, .int (0 : Int32)), (0, .ref (n0 + 0)), (1, .int a1)]) hX dX5_countNotValid_1 rfl (by decide) rfl ?_
  refine zt_iconst hX dX5_countNotValid_2 (v := (0 : Int32)) (by decide) ?_
  refine zt_istore_n (L' := [(3, .int (0 : Int32)), (2, .int (0 : Int32)), (0, .ref (n0 + 0)), (1, .int a1)]) hX dX5_countNotValid_3 rfl (by decide) rfl ?_
  exact zt_sub [2, 3, 1, 0] rfl (t_X5_countNotValid_4 hX hY 400 _ _ _ _ hf)

theorem dX5_sumOf_0 : decode cX5_sumOf 0 = .ok (.iconst 0, 1) := by decide +kernel
theorem dX5_sumOf_1 : decode cX5_sumOf 1 = .ok (.istore_n 1, 1) := by decide +kernel
theorem dX5_sumOf_2 : decode cX5_sumOf 2 = .ok (.aload_n 0, 1) := by decide +kernel
theorem dX5_sumOf_3 : decode cX5_sumOf 3 = .ok (.astore_n 2, 1) := by decide +kernel
theorem dX5_sumOf_4 : decode cX5_sumOf 4 = .ok (.aload_n 2, 1) := by decide +kernel
theorem dX5_sumOf_5 : decode cX5_sumOf 5 = .ok (.arraylength, 1) := by decide +kernel
theorem dX5_sumOf_6 : decode cX5_sumOf 6 = .ok (.istore_n 3, 1) := by decide +kernel
theorem dX5_sumOf_7 : decode cX5_sumOf 7 = .ok (.iconst 0, 1) := by decide +kernel
theorem dX5_sumOf_8 : decode cX5_sumOf 8 = .ok (.istore 4, 2) := by decide +kernel
theorem dX5_sumOf_10 : decode cX5_sumOf 10 = .ok (.iload 4, 2) := by decide +kernel
theorem dX5_sumOf_12 : decode cX5_sumOf 12 = .ok (.iload_n 3, 1) := by decide +kernel
theorem dX5_sumOf_13 : decode cX5_sumOf 13 = .ok (.if_icmp .ge 20, 3) := by decide +kernel
theorem dX5_sumOf_16 : decode cX5_sumOf 16 = .ok (.aload_n 2, 1) := by decide +kernel
theorem dX5_sumOf_17 : decode cX5_sumOf 17 = .ok (.iload 4, 2) := by decide +kernel
theorem dX5_sumOf_19 : decode cX5_sumOf 19 = .ok (.iaload, 1) := by decide +kernel
theorem dX5_sumOf_20 : decode cX5_sumOf 20 = .ok (.istore 5, 2) := by decide +kernel
theorem dX5_sumOf_22 : decode cX5_sumOf 22 = .ok (.iload_n 1, 1) := by decide +kernel
theorem dX5_sumOf_23 : decode cX5_sumOf 23 = .ok (.iload 5, 2) := by decide +kernel
theorem dX5_sumOf_25 : decode cX5_sumOf 25 = .ok (.iadd, 1) := by decide +kernel
theorem dX5_sumOf_26 : decode cX5_sumOf 26 = .ok (.istore_n 1, 1) := by decide +kernel
theorem dX5_sumOf_27 : decode cX5_sumOf 27 = .ok (.iinc 4 1, 3) := by decide +kernel
theorem dX5_sumOf_30 : decode cX5_sumOf 30 = .ok (.goto (-20), 3) := by decide +kernel
theorem dX5_sumOf_33 : decode cX5_sumOf 33 = .ok (.iload_n 1, 1) := by decide +kernel
theorem dX5_sumOf_34 : decode cX5_sumOf 34 = .ok (.ireturn, 1) := by decide +kernel
abbrev rm_X5_sumOf : Room := { frames := 0, cells := 0, slots := 0, locals := 0 }
theorem hy_X5_sumOf : yX5_sumOf.cls ≠ "java/lang/invoke/MethodHandle" ∧ yX5_sumOf.cls ≠ "java/lang/invoke/VarHandle" ∧ (parseMethodDescriptor yX5_sumOf.desc).map (fun d => d.parameters.length) = some 1 := by decide +kernel
def wb_X5_sumOf_10  (Q : Int32 → z_S → Prop) (k10 : Int32 → Nat → Int32 → Int32 → z_S → Prop) (x1 : Int32) (p2 : Nat) (x3 : Int32) (x4 : Int32) (σ : z_S) : Prop :=
  if x3 ≤ x4 then (Q x1 σ) else ((p2 < 81 ∧ z_sh p2 = (10, 12)) ∧ vp_in x4 12 ∧ ∀ y5 : Int32, y5 = (zg_i σ p2 x4.toNatClampNeg) → ∀ y6 : Int32, y6 = (x1 + y5) → ∀ y7 : Int32, y7 = (x4 + (1 : Int32)) → k10 y6 p2 x3 y7 σ)
def w_X5_sumOf_10  (Q : Int32 → z_S → Prop) : Nat → Int32 → Nat → Int32 → Int32 → z_S → Prop
  | 0 => fun _ _ _ _ _ => False
  | n + 1 => wb_X5_sumOf_10  Q (w_X5_sumOf_10  Q n)
def w_X5_sumOf (a0 : Nat) (σ : z_S) (Q : Int32 → z_S → Prop) : Prop :=
  (a0 < 81 ∧ z_sh a0 = (10, 12)) ∧ w_X5_sumOf_10 Q 400 (0 : Int32) a0 (12 : Int32) (0 : Int32) σ
set_option maxHeartbeats 4000000 in
set_option maxRecDepth 100000 in
theorem t_X5_sumOf_10 {l : Launch} {D : va_G} {cI cJ cM cS : ClassId} {n0 : Nat} {p : Program} {e : Env} {s : State} {m : MethodId} {args : Array Value} {below : List Frame} {meth : Method} {c : Code}  {Q : Int32 → z_S → Prop} (hX : z_X D cI cJ cM cS p s m args c cX5_sumOf 6 yX5_sumOf.cls) (hY : z_Y s meth (some .int))  : ∀ (n : Nat) (x1 : Int32) (p2 : Nat) (x3 : Int32) (x4 : Int32) (σ : z_S), w_X5_sumOf_10  Q n x1 p2 x3 x4 σ → z_t D cI cJ cM cS n0 p l e rm_X5_sumOf s m args below meth c 6 (MQ below (va_Qi Q (fun u t => z_Bq D cI cJ cM cS n0 u t) (z_Ab n0)) args s 0 0 (z_Ab n0)) 0 0 10 [(1, .int x1), (2, .ref (n0 + p2)), (3, .int x3), (4, .int x4)] [] σ := by
  intro n
  induction n with
  | zero => intro _ _ _ _ _ hf; exact hf.elim
  | succ n ih10 =>
    intro x1 p2 x3 x4 σ hf
    have hf : wb_X5_sumOf_10  Q (w_X5_sumOf_10  Q n) x1 p2 x3 x4 σ := hf
    unfold wb_X5_sumOf_10 at hf
    refine zt_iload hX 3 dX5_sumOf_10 rfl ?_
    refine zt_iload_n hX 2 dX5_sumOf_12 rfl rfl ?_
    refine zt_icmp_ge hX dX5_sumOf_13 (tgt := 33) (by decide) (fun c2 => ?_) (fun c2 => ?_)
    · replace hf := z_pos hf c2
      refine zt_iload_n hX 0 dX5_sumOf_33 rfl rfl ?_
      exact zt_iret hX hY dX5_sumOf_34 hf
    · replace hf := z_neg hf c2
      refine zt_aload_n hX 1 dX5_sumOf_16 rfl rfl ?_
      refine zt_iload hX 3 dX5_sumOf_17 rfl ?_
      obtain ⟨h4, hf⟩ := hf
      obtain ⟨h3, hf⟩ := hf
      refine zt_iaload hX dX5_sumOf_19 h4.1 h4.2 h3 ?_
      refine zt_nmi (fun y5 e5 => ?_)
      replace hf := hf y5 e5
      refine zt_istore (L' := [(5, .int y5), (1, .int x1), (2, .ref (n0 + p2)), (3, .int x3), (4, .int x4)]) hX dX5_sumOf_20 (by decide) rfl ?_
      refine zt_iload_n hX 1 dX5_sumOf_22 rfl rfl ?_
      refine zt_iload hX 0 dX5_sumOf_23 rfl ?_
      refine zt_iadd hX dX5_sumOf_25 ?_
      refine zt_nmi (fun y6 e6 => ?_)
      replace hf := hf y6 e6
      refine zt_istore_n (L' := [(1, .int y6), (5, .int y5), (2, .ref (n0 + p2)), (3, .int x3), (4, .int x4)]) hX dX5_sumOf_26 rfl (by decide) rfl ?_
      obtain ⟨y7, e7⟩ : ∃ y : Int32, y = (x4 + (1 : Int32)) := ⟨_, rfl⟩
      replace hf := hf y7 e7
      refine zt_iinc (L' := [(4, .int y7), (1, .int y6), (5, .int y5), (2, .ref (n0 + p2)), (3, .int x3)]) hX 4 dX5_sumOf_27 rfl (v := y7) (by rw [e7]; rfl) (by decide) rfl ?_
      refine zt_goto hX dX5_sumOf_30 (tgt := 10) (by decide) ?_
      exact zt_sub [1, 3, 4, 0] rfl (ih10 _ _ _ _ _ hf)
set_option maxHeartbeats 4000000 in
set_option maxRecDepth 100000 in
theorem c_X5_sumOf {l : Launch} {D : va_G} {cI cJ cM cS : ClassId} {n0 : Nat} {a0 : Nat} {σ : z_S} {Q : Int32 → z_S → Prop} (hf : w_X5_sumOf a0 σ Q) : z_ci l D cI cJ cM cS n0 yX5_sumOf cX5_sumOf 6 .int rm_X5_sumOf 0 0 [.ref (n0 + a0)] σ Q := by
  refine z_ofi (by decide +kernel) (Nat.le_of_ble_eq_true rfl) (fun p e s m args below meth c hX hY => ?_)
  unfold w_X5_sumOf at hf
  refine zt_L (L' := [(0, .ref (n0 + a0))]) rfl ?_
  refine zt_iconst hX dX5_sumOf_0 (v := (0 : Int32)) (by decide) ?_
  refine zt_istore_n (L' := [(1, .int (0 : Int32)), (0, .ref (n0 + a0))]) hX dX5_sumOf_1 rfl (by decide) rfl ?_
  refine zt_aload_n hX 1 dX5_sumOf_2 rfl rfl ?_
  refine zt_astore_n (L' := [(2, .ref (n0 + a0)), (1, .int (0 : Int32)), (0, .ref (n0 + a0))]) hX dX5_sumOf_3 rfl (by decide) rfl ?_
  refine zt_aload_n hX 0 dX5_sumOf_4 rfl rfl ?_
  obtain ⟨h1, hf⟩ := hf
  refine zt_alenI hX dX5_sumOf_5 h1.1 h1.2 (v := (12 : Int32)) (by decide) (by decide) ?_
  refine zt_istore_n (L' := [(3, .int (12 : Int32)), (2, .ref (n0 + a0)), (1, .int (0 : Int32)), (0, .ref (n0 + a0))]) hX dX5_sumOf_6 rfl (by decide) rfl ?_
  refine zt_iconst hX dX5_sumOf_7 (v := (0 : Int32)) (by decide) ?_
  refine zt_istore (L' := [(4, .int (0 : Int32)), (3, .int (12 : Int32)), (2, .ref (n0 + a0)), (1, .int (0 : Int32)), (0, .ref (n0 + a0))]) hX dX5_sumOf_8 (by decide) rfl ?_
  exact zt_sub [3, 2, 1, 0] rfl (t_X5_sumOf_10 hX hY 400 _ _ _ _ _ hf)

theorem dX5_sumOfLosses_0 : decode cX5_sumOfLosses 0 = .ok (.aload_n 0, 1) := by decide +kernel
theorem dX5_sumOfLosses_1 : decode cX5_sumOfLosses 1 = .ok (.getfield 10, 3) := by decide +kernel
theorem dX5_sumOfLosses_4 : decode cX5_sumOfLosses 4 = .ok (.iload_n 1, 1) := by decide +kernel
theorem dX5_sumOfLosses_5 : decode cX5_sumOfLosses 5 = .ok (.invokevirtual 94, 3) := by decide +kernel
theorem dX5_sumOfLosses_8 : decode cX5_sumOfLosses 8 = .ok (.ifCond .ne 6, 3) := by decide +kernel
theorem dX5_sumOfLosses_11 : decode cX5_sumOfLosses 11 = .ok (.ldc 104, 2) := by decide +kernel
theorem dX5_sumOfLosses_13 : decode cX5_sumOfLosses 13 = .ok (.ireturn, 1) := by decide +kernel
theorem dX5_sumOfLosses_14 : decode cX5_sumOfLosses 14 = .ok (.aload_n 0, 1) := by decide +kernel
theorem dX5_sumOfLosses_15 : decode cX5_sumOfLosses 15 = .ok (.getfield 26, 3) := by decide +kernel
theorem dX5_sumOfLosses_18 : decode cX5_sumOfLosses 18 = .ok (.aload_n 0, 1) := by decide +kernel
theorem dX5_sumOfLosses_19 : decode cX5_sumOfLosses 19 = .ok (.getfield 10, 3) := by decide +kernel
theorem dX5_sumOfLosses_22 : decode cX5_sumOfLosses 22 = .ok (.iload_n 1, 1) := by decide +kernel
theorem dX5_sumOfLosses_23 : decode cX5_sumOfLosses 23 = .ok (.invokevirtual 152, 3) := by decide +kernel
theorem dX5_sumOfLosses_26 : decode cX5_sumOfLosses 26 = .ok (.iconst 0, 1) := by decide +kernel
theorem dX5_sumOfLosses_27 : decode cX5_sumOfLosses 27 = .ok (.istore_n 2, 1) := by decide +kernel
theorem dX5_sumOfLosses_28 : decode cX5_sumOfLosses 28 = .ok (.iconst 0, 1) := by decide +kernel
theorem dX5_sumOfLosses_29 : decode cX5_sumOfLosses 29 = .ok (.istore_n 3, 1) := by decide +kernel
theorem dX5_sumOfLosses_30 : decode cX5_sumOfLosses 30 = .ok (.iload_n 3, 1) := by decide +kernel
theorem dX5_sumOfLosses_31 : decode cX5_sumOfLosses 31 = .ok (.bipush 12, 2) := by decide +kernel
theorem dX5_sumOfLosses_33 : decode cX5_sumOfLosses 33 = .ok (.if_icmp .ge 25, 3) := by decide +kernel
theorem dX5_sumOfLosses_36 : decode cX5_sumOfLosses 36 = .ok (.iload_n 2, 1) := by decide +kernel
theorem dX5_sumOfLosses_37 : decode cX5_sumOfLosses 37 = .ok (.aload_n 0, 1) := by decide +kernel
theorem dX5_sumOfLosses_38 : decode cX5_sumOfLosses 38 = .ok (.getfield 26, 3) := by decide +kernel
theorem dX5_sumOfLosses_41 : decode cX5_sumOfLosses 41 = .ok (.aload_n 0, 1) := by decide +kernel
theorem dX5_sumOfLosses_42 : decode cX5_sumOfLosses 42 = .ok (.getfield 10, 3) := by decide +kernel
theorem dX5_sumOfLosses_45 : decode cX5_sumOfLosses 45 = .ok (.iload_n 1, 1) := by decide +kernel
theorem dX5_sumOfLosses_46 : decode cX5_sumOfLosses 46 = .ok (.iload_n 3, 1) := by decide +kernel
theorem dX5_sumOfLosses_47 : decode cX5_sumOfLosses 47 = .ok (.invokevirtual 155, 3) := by decide +kernel
theorem dX5_sumOfLosses_50 : decode cX5_sumOfLosses 50 = .ok (.iadd, 1) := by decide +kernel
theorem dX5_sumOfLosses_51 : decode cX5_sumOfLosses 51 = .ok (.istore_n 2, 1) := by decide +kernel
theorem dX5_sumOfLosses_52 : decode cX5_sumOfLosses 52 = .ok (.iinc 3 1, 3) := by decide +kernel
theorem dX5_sumOfLosses_55 : decode cX5_sumOfLosses 55 = .ok (.goto (-25), 3) := by decide +kernel
theorem dX5_sumOfLosses_58 : decode cX5_sumOfLosses 58 = .ok (.iload_n 2, 1) := by decide +kernel
theorem dX5_sumOfLosses_59 : decode cX5_sumOfLosses 59 = .ok (.ireturn, 1) := by decide +kernel
abbrev rm_X5_sumOfLosses : Room := { frames := 5, cells := 0, slots := 0, locals := 119 }
theorem hy_X5_sumOfLosses : yX5_sumOfLosses.cls ≠ "java/lang/invoke/MethodHandle" ∧ yX5_sumOfLosses.cls ≠ "java/lang/invoke/VarHandle" ∧ (parseMethodDescriptor yX5_sumOfLosses.desc).map (fun d => d.parameters.length) = some 1 := by decide +kernel
def wb_X5_sumOfLosses_30  (Q : Int32 → z_S → Prop) (k30 : Int32 → Int32 → Int32 → z_S → Prop) (x1 : Int32) (x2 : Int32) (x3 : Int32) (σ : z_S) : Prop :=
  if (12 : Int32) ≤ x3 then (Q x2 σ) else (w_X1_lossIn x1 x3 σ (fun r7 σ8 => ∀ y9 : Int32, y9 = (x2 + r7) → ∀ y10 : Int32, y10 = (x3 + (1 : Int32)) → k30 x1 y9 y10 σ8))
def w_X5_sumOfLosses_30  (Q : Int32 → z_S → Prop) : Nat → Int32 → Int32 → Int32 → z_S → Prop
  | 0 => fun _ _ _ _ => False
  | n + 1 => wb_X5_sumOfLosses_30  Q (w_X5_sumOfLosses_30  Q n)
def w_X5_sumOfLosses (a1 : Int32) (σ : z_S) (Q : Int32 → z_S → Prop) : Prop :=
  w_X4_countChildren a1 σ (fun r1 σ2 => if r1 = 0 then (Q (-2000000000 : Int32) σ2) else (w_X1_measureFamily a1 σ2 (fun σ5 => w_X5_sumOfLosses_30 Q 400 a1 (0 : Int32) (0 : Int32) σ5)))
set_option maxHeartbeats 4000000 in
set_option maxRecDepth 100000 in
theorem t_X5_sumOfLosses_30 {l : Launch} {D : va_G} {cI cJ cM cS : ClassId} {n0 : Nat} {p : Program} {e : Env} {s : State} {m : MethodId} {args : Array Value} {below : List Frame} {meth : Method} {c : Code}  {Q : Int32 → z_S → Prop} (hX : z_X D cI cJ cM cS p s m args c cX5_sumOfLosses 4 yX5_sumOfLosses.cls) (hY : z_Y s meth (some .int))  : ∀ (n : Nat) (x1 : Int32) (x2 : Int32) (x3 : Int32) (σ : z_S), w_X5_sumOfLosses_30  Q n x1 x2 x3 σ → z_t D cI cJ cM cS n0 p l e rm_X5_sumOfLosses s m args below meth c 4 (MQ below (va_Qi Q (fun u t => z_Bq D cI cJ cM cS n0 u t) (z_Ab n0)) args s 0 0 (z_Ab n0)) 0 0 30 [(0, .ref (n0 + 0)), (1, .int x1), (2, .int x2), (3, .int x3)] [] σ := by
  intro n
  induction n with
  | zero => intro _ _ _ _ hf; exact hf.elim
  | succ n ih30 =>
    intro x1 x2 x3 σ hf
    have hf : wb_X5_sumOfLosses_30  Q (w_X5_sumOfLosses_30  Q n) x1 x2 x3 σ := hf
    unfold wb_X5_sumOfLosses_30 at hf
    refine zt_iload_n hX 3 dX5_sumOfLosses_30 rfl rfl ?_
    refine zt_bipush hX dX5_sumOfLosses_31 (v := (12 : Int32)) (by decide) ?_
    refine zt_icmp_ge hX dX5_sumOfLosses_33 (tgt := 58) (by decide) (fun c6 => ?_) (fun c6 => ?_)
    · replace hf := z_pos hf c6
      refine zt_iload_n hX 2 dX5_sumOfLosses_58 rfl rfl ?_
      exact zt_iret hX hY dX5_sumOfLosses_59 hf
    · replace hf := z_neg hf c6
      refine zt_iload_n hX 2 dX5_sumOfLosses_36 rfl rfl ?_
      refine zt_aload_n hX 0 dX5_sumOfLosses_37 rfl rfl ?_
      refine zt_get_X5 hX (by decide) (zE_0 _ _) 2 (by decide) kw_236 rfl rfl dX5_sumOfLosses_38 ?_
      refine zt_aload_n hX 0 dX5_sumOfLosses_41 rfl rfl ?_
      refine zt_get_X5 hX (by decide) (zE_0 _ _) 0 (by decide) kw_234 rfl rfl dX5_sumOfLosses_42 ?_
      refine zt_iload_n hX 1 dX5_sumOfLosses_45 rfl rfl ?_
      refine zt_iload_n hX 3 dX5_sumOfLosses_46 rfl rfl ?_
      refine zt_calliV hX hY (av := [.ref (n0 + 1), .int x1, .int x3]) (c_X1_lossIn hf) dX5_sumOfLosses_47 rfl kw_430 kw_431 kw_432 kw_64 kw_433 ⟨rfl, rfl⟩ hy_X1_lossIn ⟨by decide, by decide⟩ ⟨by decide, by decide⟩ (Nat.le_of_ble_eq_true rfl) (by decide) (zE_29 _ _) rfl rfl (fun r7 σ8 hf => ?_)
      refine zt_iadd hX dX5_sumOfLosses_50 ?_
      refine zt_nmi (fun y9 e9 => ?_)
      replace hf := hf y9 e9
      refine zt_istore_n (L' := [(2, .int y9), (0, .ref (n0 + 0)), (1, .int x1), (3, .int x3)]) hX dX5_sumOfLosses_51 rfl (by decide) rfl ?_
      obtain ⟨y10, e10⟩ : ∃ y : Int32, y = (x3 + (1 : Int32)) := ⟨_, rfl⟩
      replace hf := hf y10 e10
      refine zt_iinc (L' := [(3, .int y10), (2, .int y9), (0, .ref (n0 + 0)), (1, .int x1)]) hX 3 dX5_sumOfLosses_52 rfl (v := y10) (by rw [e10]; rfl) (by decide) rfl ?_
      refine zt_goto hX dX5_sumOfLosses_55 (tgt := 30) (by decide) ?_
      exact zt_sub [2, 3, 1, 0] rfl (ih30 _ _ _ _ hf)
set_option maxHeartbeats 4000000 in
set_option maxRecDepth 100000 in
theorem c_X5_sumOfLosses {l : Launch} {D : va_G} {cI cJ cM cS : ClassId} {n0 : Nat} {a1 : Int32} {σ : z_S} {Q : Int32 → z_S → Prop} (hf : w_X5_sumOfLosses a1 σ Q) : z_ci l D cI cJ cM cS n0 yX5_sumOfLosses cX5_sumOfLosses 4 .int rm_X5_sumOfLosses 0 0 [.ref (n0 + 0), .int a1] σ Q := by
  refine z_ofi (by decide +kernel) (Nat.le_of_ble_eq_true rfl) (fun p e s m args below meth c hX hY => ?_)
  unfold w_X5_sumOfLosses at hf
  refine zt_L (L' := [(0, .ref (n0 + 0)), (1, .int a1)]) rfl ?_
  refine zt_aload_n hX 0 dX5_sumOfLosses_0 rfl rfl ?_
  refine zt_get_X5 hX (by decide) (zE_0 _ _) 0 (by decide) kw_234 rfl rfl dX5_sumOfLosses_1 ?_
  refine zt_iload_n hX 1 dX5_sumOfLosses_4 rfl rfl ?_
  refine zt_calliV hX hY (av := [.int a1]) (c_X4_countChildren hf) dX5_sumOfLosses_5 rfl kw_312 kw_313 kw_314 kw_62 kw_315 ⟨rfl, rfl⟩ hy_X4_countChildren ⟨by decide, by decide⟩ ⟨by decide, by decide⟩ (Nat.le_of_ble_eq_true rfl) (by decide) (zE_1 _ _) rfl rfl (fun r1 σ2 hf => ?_)
  refine zt_if_ne hX dX5_sumOfLosses_8 (tgt := 14) (by decide) (fun c3 => ?_) (fun c3 => ?_)
  · replace hf := z_neg hf c3
    refine zt_aload_n hX 0 dX5_sumOfLosses_14 rfl rfl ?_
    refine zt_get_X5 hX (by decide) (zE_0 _ _) 2 (by decide) kw_236 rfl rfl dX5_sumOfLosses_15 ?_
    refine zt_aload_n hX 0 dX5_sumOfLosses_18 rfl rfl ?_
    refine zt_get_X5 hX (by decide) (zE_0 _ _) 0 (by decide) kw_234 rfl rfl dX5_sumOfLosses_19 ?_
    refine zt_iload_n hX 1 dX5_sumOfLosses_22 rfl rfl ?_
    refine zt_callvV hX hY (av := [.ref (n0 + 1), .int a1]) (c_X1_measureFamily hf) dX5_sumOfLosses_23 rfl kw_425 kw_426 kw_427 kw_64 kw_428 ⟨rfl, rfl⟩ hy_X1_measureFamily ⟨by decide, by decide⟩ ⟨by decide, by decide⟩ (Nat.le_of_ble_eq_true rfl) (by decide) (zE_29 _ _) rfl rfl (fun σ5 hf => ?_)
    refine zt_iconst hX dX5_sumOfLosses_26 (v := (0 : Int32)) (by decide) ?_
    refine zt_istore_n (L' := [(2, .int (0 : Int32)), (0, .ref (n0 + 0)), (1, .int a1)]) hX dX5_sumOfLosses_27 rfl (by decide) rfl ?_
    refine zt_iconst hX dX5_sumOfLosses_28 (v := (0 : Int32)) (by decide) ?_
    refine zt_istore_n (L' := [(3, .int (0 : Int32)), (2, .int (0 : Int32)), (0, .ref (n0 + 0)), (1, .int a1)]) hX dX5_sumOfLosses_29 rfl (by decide) rfl ?_
    exact zt_sub [2, 3, 1, 0] rfl (t_X5_sumOfLosses_30 hX hY 400 _ _ _ _ hf)
  · replace hf := z_pos hf c3
    refine zt_ldc hX dX5_sumOfLosses_11 kw_329 ?_
    exact zt_iret hX hY dX5_sumOfLosses_13 hf

theorem dX5_day_0 : decode cX5_day 0 = .ok (.aload_n 0, 1) := by decide +kernel
theorem dX5_day_1 : decode cX5_day 1 = .ok (.getfield 10, 3) := by decide +kernel
theorem dX5_day_4 : decode cX5_day 4 = .ok (.iload_n 1, 1) := by decide +kernel
theorem dX5_day_5 : decode cX5_day 5 = .ok (.invokevirtual 48, 3) := by decide +kernel
theorem dX5_day_8 : decode cX5_day 8 = .ok (.ifCond .ne 6, 3) := by decide +kernel
theorem dX5_day_11 : decode cX5_day 11 = .ok (.ldc 52, 2) := by decide +kernel
theorem dX5_day_13 : decode cX5_day 13 = .ok (.ireturn, 1) := by decide +kernel
theorem dX5_day_14 : decode cX5_day 14 = .ok (.iload_n 2, 1) := by decide +kernel
theorem dX5_day_15 : decode cX5_day 15 = .ok (.tableswitch 94 0 3 #[29, 54, 60, 88], 29) := by decide +kernel
theorem dX5_day_44 : decode cX5_day 44 = .ok (.aload_n 0, 1) := by decide +kernel
theorem dX5_day_45 : decode cX5_day 45 = .ok (.getfield 26, 3) := by decide +kernel
theorem dX5_day_48 : decode cX5_day 48 = .ok (.aload_n 0, 1) := by decide +kernel
theorem dX5_day_49 : decode cX5_day 49 = .ok (.getfield 10, 3) := by decide +kernel
theorem dX5_day_52 : decode cX5_day 52 = .ok (.iload_n 1, 1) := by decide +kernel
theorem dX5_day_53 : decode cX5_day 53 = .ok (.invokevirtual 125, 3) := by decide +kernel
theorem dX5_day_56 : decode cX5_day 56 = .ok (.aload_n 0, 1) := by decide +kernel
theorem dX5_day_57 : decode cX5_day 57 = .ok (.getfield 26, 3) := by decide +kernel
theorem dX5_day_60 : decode cX5_day 60 = .ok (.getfield 129, 3) := by decide +kernel
theorem dX5_day_63 : decode cX5_day 63 = .ok (.iload_n 1, 1) := by decide +kernel
theorem dX5_day_64 : decode cX5_day 64 = .ok (.aaload, 1) := by decide +kernel
theorem dX5_day_65 : decode cX5_day 65 = .ok (.invokestatic 135, 3) := by decide +kernel
theorem dX5_day_68 : decode cX5_day 68 = .ok (.ireturn, 1) := by decide +kernel
theorem dX5_day_69 : decode cX5_day 69 = .ok (.aload_n 0, 1) := by decide +kernel
theorem dX5_day_70 : decode cX5_day 70 = .ok (.iload_n 1, 1) := by decide +kernel
theorem dX5_day_71 : decode cX5_day 71 = .ok (.invokevirtual 139, 3) := by decide +kernel
theorem dX5_day_74 : decode cX5_day 74 = .ok (.ireturn, 1) := by decide +kernel
theorem dX5_day_75 : decode cX5_day 75 = .ok (.aload_n 0, 1) := by decide +kernel
theorem dX5_day_76 : decode cX5_day 76 = .ok (.getfield 33, 3) := by decide +kernel
theorem dX5_day_79 : decode cX5_day 79 = .ok (.aload_n 0, 1) := by decide +kernel
theorem dX5_day_80 : decode cX5_day 80 = .ok (.getfield 10, 3) := by decide +kernel
theorem dX5_day_83 : decode cX5_day 83 = .ok (.aload_n 0, 1) := by decide +kernel
theorem dX5_day_84 : decode cX5_day 84 = .ok (.getfield 26, 3) := by decide +kernel
theorem dX5_day_87 : decode cX5_day 87 = .ok (.invokevirtual 142, 3) := by decide +kernel
theorem dX5_day_90 : decode cX5_day 90 = .ok (.aload_n 0, 1) := by decide +kernel
theorem dX5_day_91 : decode cX5_day 91 = .ok (.getfield 33, 3) := by decide +kernel
theorem dX5_day_94 : decode cX5_day 94 = .ok (.getfield 146, 3) := by decide +kernel
theorem dX5_day_97 : decode cX5_day 97 = .ok (.iload_n 1, 1) := by decide +kernel
theorem dX5_day_98 : decode cX5_day 98 = .ok (.aaload, 1) := by decide +kernel
theorem dX5_day_99 : decode cX5_day 99 = .ok (.invokestatic 135, 3) := by decide +kernel
theorem dX5_day_102 : decode cX5_day 102 = .ok (.ireturn, 1) := by decide +kernel
theorem dX5_day_103 : decode cX5_day 103 = .ok (.aload_n 0, 1) := by decide +kernel
theorem dX5_day_104 : decode cX5_day 104 = .ok (.iload_n 1, 1) := by decide +kernel
theorem dX5_day_105 : decode cX5_day 105 = .ok (.invokevirtual 149, 3) := by decide +kernel
theorem dX5_day_108 : decode cX5_day 108 = .ok (.ireturn, 1) := by decide +kernel
theorem dX5_day_109 : decode cX5_day 109 = .ok (.ldc 66, 2) := by decide +kernel
theorem dX5_day_111 : decode cX5_day 111 = .ok (.ireturn, 1) := by decide +kernel
abbrev rm_X5_day : Room := { frames := 6, cells := 0, slots := 0, locals := 142 }
theorem hy_X5_day : yX5_day.cls ≠ "java/lang/invoke/MethodHandle" ∧ yX5_day.cls ≠ "java/lang/invoke/VarHandle" ∧ (parseMethodDescriptor yX5_day.desc).map (fun d => d.parameters.length) = some 2 := by decide +kernel
def w_X5_day (a1 : Int32) (a2 : Int32) (σ : z_S) (Q : Int32 → z_S → Prop) : Prop :=
  w_X4_has a1 σ (fun r1 σ2 => if r1 = 0 then (Q (-2000000001 : Int32) σ2) else (if a2 = (0 : Int32) then (w_X1_measure a1 σ2 (fun σ6 => vp_in a1 10 ∧ w_X5_sumOf (31 + a1.toNatClampNeg) σ6 (fun r8 σ9 => Q r8 σ9))) else (if a2 = (1 : Int32) then (w_X5_sumOfLosses a1 σ2 (fun r11 σ12 => Q r11 σ12)) else (if a2 = (2 : Int32) then (w_X0_fill σ2 (fun σ15 => vp_in a1 10 ∧ w_X5_sumOf (55 + a1.toNatClampNeg) σ15 (fun r17 σ18 => Q r17 σ18))) else (if a2 = (3 : Int32) then (w_X5_countNotValid a1 σ2 (fun r20 σ21 => Q r20 σ21)) else (Q (-2000000002 : Int32) σ2))))))
set_option maxHeartbeats 4000000 in
set_option maxRecDepth 100000 in
theorem c_X5_day {l : Launch} {D : va_G} {cI cJ cM cS : ClassId} {n0 : Nat} {a1 : Int32} {a2 : Int32} {σ : z_S} {Q : Int32 → z_S → Prop} (hf : w_X5_day a1 a2 σ Q) : z_ci l D cI cJ cM cS n0 yX5_day cX5_day 3 .int rm_X5_day 0 0 [.ref (n0 + 0), .int a1, .int a2] σ Q := by
  refine z_ofi (by decide +kernel) (Nat.le_of_ble_eq_true rfl) (fun p e s m args below meth c hX hY => ?_)
  unfold w_X5_day at hf
  refine zt_L (L' := [(0, .ref (n0 + 0)), (1, .int a1), (2, .int a2)]) rfl ?_
  refine zt_aload_n hX 0 dX5_day_0 rfl rfl ?_
  refine zt_get_X5 hX (by decide) (zE_0 _ _) 0 (by decide) kw_234 rfl rfl dX5_day_1 ?_
  refine zt_iload_n hX 1 dX5_day_4 rfl rfl ?_
  refine zt_calliV hX hY (av := [.int a1]) (c_X4_has hf) dX5_day_5 rfl kw_254 kw_255 kw_256 kw_62 kw_257 ⟨rfl, rfl⟩ hy_X4_has ⟨by decide, by decide⟩ ⟨by decide, by decide⟩ (Nat.le_of_ble_eq_true rfl) (by decide) (zE_1 _ _) rfl rfl (fun r1 σ2 hf => ?_)
  refine zt_if_ne hX dX5_day_8 (tgt := 14) (by decide) (fun c3 => ?_) (fun c3 => ?_)
  · replace hf := z_neg hf c3
    refine zt_iload_n hX 2 dX5_day_14 rfl rfl ?_
    by_cases c4 : a2 = (0 : Int32)
    · replace hf := z_pos hf c4
      refine zt_tabIn hX dX5_day_15 (by rw [c4]; decide) (by rw [c4]; decide) (off := 29) (by rw [c4]; rfl) (tgt := 44) (by decide) ?_
      refine zt_aload_n hX 0 dX5_day_44 rfl rfl ?_
      refine zt_get_X5 hX (by decide) (zE_0 _ _) 2 (by decide) kw_236 rfl rfl dX5_day_45 ?_
      refine zt_aload_n hX 0 dX5_day_48 rfl rfl ?_
      refine zt_get_X5 hX (by decide) (zE_0 _ _) 0 (by decide) kw_234 rfl rfl dX5_day_49 ?_
      refine zt_iload_n hX 1 dX5_day_52 rfl rfl ?_
      refine zt_callvV hX hY (av := [.ref (n0 + 1), .int a1]) (c_X1_measure hf) dX5_day_53 rfl kw_383 kw_384 kw_385 kw_64 kw_386 ⟨rfl, rfl⟩ hy_X1_measure ⟨by decide, by decide⟩ ⟨by decide, by decide⟩ (Nat.le_of_ble_eq_true rfl) (by decide) (zE_29 _ _) rfl rfl (fun σ6 hf => ?_)
      refine zt_aload_n hX 0 dX5_day_56 rfl rfl ?_
      refine zt_get_X5 hX (by decide) (zE_0 _ _) 2 (by decide) kw_236 rfl rfl dX5_day_57 ?_
      refine zt_get_X1 hX (by decide) (zE_29 _ _) 0 (by decide) kw_168 rfl rfl dX5_day_60 ?_
      refine zt_iload_n hX 1 dX5_day_63 rfl rfl ?_
      obtain ⟨h7, hf⟩ := hf
      refine zt_aaloadM hX dX5_day_64 (by decide) rfl (k1 := 31) rfl h7 ?_
      refine zt_calliS hX hY (av := [.ref (n0 + (31 + a1.toNatClampNeg))]) (c_X5_sumOf hf) dX5_day_65 rfl kw_418 kw_419 kw_61 kw_420 ⟨rfl, rfl⟩ hy_X5_sumOf ⟨by decide, by decide⟩ ⟨by decide, by decide⟩ (Nat.le_of_ble_eq_true rfl) (fun r8 σ9 hf => ?_)
      exact zt_iret hX hY dX5_day_68 hf
    replace hf := z_neg hf c4
    by_cases c10 : a2 = (1 : Int32)
    · replace hf := z_pos hf c10
      refine zt_tabIn hX dX5_day_15 (by rw [c10]; decide) (by rw [c10]; decide) (off := 54) (by rw [c10]; rfl) (tgt := 69) (by decide) ?_
      refine zt_aload_n hX 0 dX5_day_69 rfl rfl ?_
      refine zt_iload_n hX 1 dX5_day_70 rfl rfl ?_
      refine zt_calliV hX hY (av := [.int a1]) (c_X5_sumOfLosses hf) dX5_day_71 rfl kw_421 kw_423 kw_6 kw_61 kw_424 ⟨rfl, rfl⟩ hy_X5_sumOfLosses ⟨by decide, by decide⟩ ⟨by decide, by decide⟩ (Nat.le_of_ble_eq_true rfl) (by decide) (zE_0 _ _) rfl rfl (fun r11 σ12 hf => ?_)
      exact zt_iret hX hY dX5_day_74 hf
    replace hf := z_neg hf c10
    by_cases c13 : a2 = (2 : Int32)
    · replace hf := z_pos hf c13
      refine zt_tabIn hX dX5_day_15 (by rw [c13]; decide) (by rw [c13]; decide) (off := 60) (by rw [c13]; rfl) (tgt := 75) (by decide) ?_
      refine zt_aload_n hX 0 dX5_day_75 rfl rfl ?_
      refine zt_get_X5 hX (by decide) (zE_0 _ _) 3 (by decide) kw_237 rfl rfl dX5_day_76 ?_
      refine zt_aload_n hX 0 dX5_day_79 rfl rfl ?_
      refine zt_get_X5 hX (by decide) (zE_0 _ _) 0 (by decide) kw_234 rfl rfl dX5_day_80 ?_
      refine zt_aload_n hX 0 dX5_day_83 rfl rfl ?_
      refine zt_get_X5 hX (by decide) (zE_0 _ _) 2 (by decide) kw_236 rfl rfl dX5_day_84 ?_
      refine zt_callvV hX hY (av := [.ref (n0 + 1), .ref (n0 + 29)]) (c_X0_fill hf) dX5_day_87 rfl kw_434 kw_435 kw_436 kw_65 kw_437 ⟨rfl, rfl⟩ hy_X0_fill ⟨by decide, by decide⟩ ⟨by decide, by decide⟩ (Nat.le_of_ble_eq_true rfl) (by decide) (zE_53 _ _) rfl rfl (fun σ15 hf => ?_)
      refine zt_aload_n hX 0 dX5_day_90 rfl rfl ?_
      refine zt_get_X5 hX (by decide) (zE_0 _ _) 3 (by decide) kw_237 rfl rfl dX5_day_91 ?_
      refine zt_get_X0 hX (by decide) (zE_53 _ _) 0 (by decide) kw_187 rfl rfl dX5_day_94 ?_
      refine zt_iload_n hX 1 dX5_day_97 rfl rfl ?_
      obtain ⟨h16, hf⟩ := hf
      refine zt_aaloadM hX dX5_day_98 (by decide) rfl (k1 := 55) rfl h16 ?_
      refine zt_calliS hX hY (av := [.ref (n0 + (55 + a1.toNatClampNeg))]) (c_X5_sumOf hf) dX5_day_99 rfl kw_418 kw_419 kw_61 kw_420 ⟨rfl, rfl⟩ hy_X5_sumOf ⟨by decide, by decide⟩ ⟨by decide, by decide⟩ (Nat.le_of_ble_eq_true rfl) (fun r17 σ18 hf => ?_)
      exact zt_iret hX hY dX5_day_102 hf
    replace hf := z_neg hf c13
    by_cases c19 : a2 = (3 : Int32)
    · replace hf := z_pos hf c19
      refine zt_tabIn hX dX5_day_15 (by rw [c19]; decide) (by rw [c19]; decide) (off := 88) (by rw [c19]; rfl) (tgt := 103) (by decide) ?_
      refine zt_aload_n hX 0 dX5_day_103 rfl rfl ?_
      refine zt_iload_n hX 1 dX5_day_104 rfl rfl ?_
      refine zt_calliV hX hY (av := [.int a1]) (c_X5_countNotValid hf) dX5_day_105 rfl kw_466 kw_468 kw_12 kw_61 kw_469 ⟨rfl, rfl⟩ hy_X5_countNotValid ⟨by decide, by decide⟩ ⟨by decide, by decide⟩ (Nat.le_of_ble_eq_true rfl) (by decide) (zE_0 _ _) rfl rfl (fun r20 σ21 hf => ?_)
      exact zt_iret hX hY dX5_day_108 hf
    replace hf := z_neg hf c19
    have qc4 := lv_neT c4 (show (0 : Int32).toInt = 0 from rfl)
    have qc10 := lv_neT c10 (show (1 : Int32).toInt = 1 from rfl)
    have qc13 := lv_neT c13 (show (2 : Int32).toInt = 2 from rfl)
    have qc19 := lv_neT c19 (show (3 : Int32).toInt = 3 from rfl)
    refine zt_tabOut hX dX5_day_15 (by omega) (tgt := 109) (by decide) ?_
    refine zt_ldc hX dX5_day_109 kw_293 ?_
    exact zt_iret hX hY dX5_day_111 hf
  · replace hf := z_pos hf c3
    refine zt_ldc hX dX5_day_11 kw_258 ?_
    exact zt_iret hX hY dX5_day_13 hf
