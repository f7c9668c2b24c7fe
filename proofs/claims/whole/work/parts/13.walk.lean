theorem dX4_countAbove_0 : decode cX4_countAbove 0 = .ok (.iconst 0, 1) := by decide +kernel
theorem dX4_countAbove_1 : decode cX4_countAbove 1 = .ok (.istore_n 2, 1) := by decide +kernel
theorem dX4_countAbove_2 : decode cX4_countAbove 2 = .ok (.aload_n 0, 1) := by decide +kernel
theorem dX4_countAbove_3 : decode cX4_countAbove 3 = .ok (.getfield 18, 3) := by decide +kernel
theorem dX4_countAbove_6 : decode cX4_countAbove 6 = .ok (.iload_n 1, 1) := by decide +kernel
theorem dX4_countAbove_7 : decode cX4_countAbove 7 = .ok (.iaload, 1) := by decide +kernel
theorem dX4_countAbove_8 : decode cX4_countAbove 8 = .ok (.istore_n 3, 1) := by decide +kernel
theorem dX4_countAbove_9 : decode cX4_countAbove 9 = .ok (.iload_n 2, 1) := by decide +kernel
theorem dX4_countAbove_10 : decode cX4_countAbove 10 = .ok (.bipush 10, 2) := by decide +kernel
theorem dX4_countAbove_12 : decode cX4_countAbove 12 = .ok (.if_icmp .ge 24, 3) := by decide +kernel
theorem dX4_countAbove_15 : decode cX4_countAbove 15 = .ok (.aload_n 0, 1) := by decide +kernel
theorem dX4_countAbove_16 : decode cX4_countAbove 16 = .ok (.iload_n 3, 1) := by decide +kernel
theorem dX4_countAbove_17 : decode cX4_countAbove 17 = .ok (.invokevirtual 60, 3) := by decide +kernel
theorem dX4_countAbove_20 : decode cX4_countAbove 20 = .ok (.ifCond .eq 16, 3) := by decide +kernel
theorem dX4_countAbove_23 : decode cX4_countAbove 23 = .ok (.iinc 2 1, 3) := by decide +kernel
theorem dX4_countAbove_26 : decode cX4_countAbove 26 = .ok (.aload_n 0, 1) := by decide +kernel
theorem dX4_countAbove_27 : decode cX4_countAbove 27 = .ok (.getfield 18, 3) := by decide +kernel
theorem dX4_countAbove_30 : decode cX4_countAbove 30 = .ok (.iload_n 3, 1) := by decide +kernel
theorem dX4_countAbove_31 : decode cX4_countAbove 31 = .ok (.iaload, 1) := by decide +kernel
theorem dX4_countAbove_32 : decode cX4_countAbove 32 = .ok (.istore_n 3, 1) := by decide +kernel
theorem dX4_countAbove_33 : decode cX4_countAbove 33 = .ok (.goto (-24), 3) := by decide +kernel
theorem dX4_countAbove_36 : decode cX4_countAbove 36 = .ok (.iload_n 2, 1) := by decide +kernel
theorem dX4_countAbove_37 : decode cX4_countAbove 37 = .ok (.ireturn, 1) := by decide +kernel
abbrev rm_X4_countAbove : Room := { frames := 1, cells := 0, slots := 0, locals := 21 }
theorem hy_X4_countAbove : yX4_countAbove.cls ≠ "java/lang/invoke/MethodHandle" ∧ yX4_countAbove.cls ≠ "java/lang/invoke/VarHandle" ∧ (parseMethodDescriptor yX4_countAbove.desc).map (fun d => d.parameters.length) = some 1 := by decide +kernel
def wb_X4_countAbove_9  (Q : Int32 → z_S → Prop) (k9 : Int32 → Int32 → z_S → Prop) (x2 : Int32) (x3 : Int32) (σ : z_S) : Prop :=
  if (10 : Int32) ≤ x2 then (Q x2 σ) else (w_X4_has x3 σ (fun r4 σ5 => if r4 = 0 then (Q x2 σ5) else (∀ y7 : Int32, y7 = (x2 + (1 : Int32)) → vp_in x3 10 ∧ ∀ y9 : Int32, y9 = (zg_i σ5 2 x3.toNatClampNeg) → k9 y7 y9 σ5)))
def w_X4_countAbove_9  (Q : Int32 → z_S → Prop) : Nat → Int32 → Int32 → z_S → Prop
  | 0 => fun _ _ _ => False
  | n + 1 => wb_X4_countAbove_9  Q (w_X4_countAbove_9  Q n)
def w_X4_countAbove (a1 : Int32) (σ : z_S) (Q : Int32 → z_S → Prop) : Prop :=
  vp_in a1 10 ∧ ∀ y2 : Int32, y2 = (zg_i σ 2 a1.toNatClampNeg) → w_X4_countAbove_9 Q 400 (0 : Int32) y2 σ
set_option maxHeartbeats 4000000 in
set_option maxRecDepth 100000 in
theorem t_X4_countAbove_9 {l : Launch} {D : va_G} {cI cJ cM cS : ClassId} {n0 : Nat} {p : Program} {e : Env} {s : State} {m : MethodId} {args : Array Value} {below : List Frame} {meth : Method} {c : Code}  {Q : Int32 → z_S → Prop} (hX : z_X D cI cJ cM cS p s m args c cX4_countAbove 4 yX4_countAbove.cls) (hY : z_Y s meth (some .int))  : ∀ (n : Nat) (x2 : Int32) (x3 : Int32) (σ : z_S), w_X4_countAbove_9  Q n x2 x3 σ → z_t D cI cJ cM cS n0 p l e rm_X4_countAbove s m args below meth c 4 (MQ below (va_Qi Q (fun u t => z_Bq D cI cJ cM cS n0 u t) (z_Ab n0)) args s 0 0 (z_Ab n0)) 0 0 9 [(0, .ref (n0 + 1)), (2, .int x2), (3, .int x3)] [] σ := by
  intro n
  induction n with
  | zero => intro _ _ _ hf; exact hf.elim
  | succ n ih9 =>
    intro x2 x3 σ hf
    have hf : wb_X4_countAbove_9  Q (w_X4_countAbove_9  Q n) x2 x3 σ := hf
    unfold wb_X4_countAbove_9 at hf
    refine zt_iload_n hX 1 dX4_countAbove_9 rfl rfl ?_
    refine zt_bipush hX dX4_countAbove_10 (v := (10 : Int32)) (by decide) ?_
    refine zt_icmp_ge hX dX4_countAbove_12 (tgt := 36) (by decide) (fun c3 => ?_) (fun c3 => ?_)
    · replace hf := z_pos hf c3
      refine zt_iload_n hX 1 dX4_countAbove_36 rfl rfl ?_
      exact zt_iret hX hY dX4_countAbove_37 hf
    · replace hf := z_neg hf c3
      refine zt_aload_n hX 0 dX4_countAbove_15 rfl rfl ?_
      refine zt_iload_n hX 2 dX4_countAbove_16 rfl rfl ?_
      refine zt_calliV hX hY (av := [.int x3]) (c_X4_has hf) dX4_countAbove_17 rfl kw_320 kw_255 kw_256 kw_62 kw_257 ⟨rfl, rfl⟩ hy_X4_has ⟨by decide, by decide⟩ ⟨by decide, by decide⟩ (Nat.le_of_ble_eq_true rfl) (by decide) (zE_1 _ _) rfl rfl (fun r4 σ5 hf => ?_)
      refine zt_if_eq hX dX4_countAbove_20 (tgt := 36) (by decide) (fun c6 => ?_) (fun c6 => ?_)
      · replace hf := z_pos hf c6
        refine zt_iload_n hX 1 dX4_countAbove_36 rfl rfl ?_
        exact zt_iret hX hY dX4_countAbove_37 hf
      · replace hf := z_neg hf c6
        obtain ⟨y7, e7⟩ : ∃ y : Int32, y = (x2 + (1 : Int32)) := ⟨_, rfl⟩
        replace hf := hf y7 e7
        refine zt_iinc (L' := [(2, .int y7), (0, .ref (n0 + 1)), (3, .int x3)]) hX 1 dX4_countAbove_23 rfl (v := y7) (by rw [e7]; rfl) (by decide) rfl ?_
        refine zt_aload_n hX 1 dX4_countAbove_26 rfl rfl ?_
        refine zt_get_X4 hX (by decide) (zE_1 _ _) 4 (by decide) kw_99 rfl rfl dX4_countAbove_27 ?_
        refine zt_iload_n hX 2 dX4_countAbove_30 rfl rfl ?_
        obtain ⟨h8, hf⟩ := hf
        refine zt_iaload hX dX4_countAbove_31 (by decide) rfl h8 ?_
        refine zt_nmi (fun y9 e9 => ?_)
        replace hf := hf y9 e9
        refine zt_istore_n (L' := [(3, .int y9), (2, .int y7), (0, .ref (n0 + 1))]) hX dX4_countAbove_32 rfl (by decide) rfl ?_
        refine zt_goto hX dX4_countAbove_33 (tgt := 9) (by decide) ?_
        exact zt_sub [2, 1, 0] rfl (ih9 _ _ _ hf)
set_option maxHeartbeats 4000000 in
set_option maxRecDepth 100000 in
theorem c_X4_countAbove {l : Launch} {D : va_G} {cI cJ cM cS : ClassId} {n0 : Nat} {a1 : Int32} {σ : z_S} {Q : Int32 → z_S → Prop} (hf : w_X4_countAbove a1 σ Q) : z_ci l D cI cJ cM cS n0 yX4_countAbove cX4_countAbove 4 .int rm_X4_countAbove 0 0 [.ref (n0 + 1), .int a1] σ Q := by
  refine z_ofi (by decide +kernel) (Nat.le_of_ble_eq_true rfl) (fun p e s m args below meth c hX hY => ?_)
  unfold w_X4_countAbove at hf
  refine zt_L (L' := [(0, .ref (n0 + 1)), (1, .int a1)]) rfl ?_
  refine zt_iconst hX dX4_countAbove_0 (v := (0 : Int32)) (by decide) ?_
  refine zt_istore_n (L' := [(2, .int (0 : Int32)), (0, .ref (n0 + 1)), (1, .int a1)]) hX dX4_countAbove_1 rfl (by decide) rfl ?_
  refine zt_aload_n hX 1 dX4_countAbove_2 rfl rfl ?_
  refine zt_get_X4 hX (by decide) (zE_1 _ _) 4 (by decide) kw_99 rfl rfl dX4_countAbove_3 ?_
  refine zt_iload_n hX 2 dX4_countAbove_6 rfl rfl ?_
  obtain ⟨h1, hf⟩ := hf
  refine zt_iaload hX dX4_countAbove_7 (by decide) rfl h1 ?_
  refine zt_nmi (fun y2 e2 => ?_)
  replace hf := hf y2 e2
  refine zt_istore_n (L' := [(3, .int y2), (2, .int (0 : Int32)), (0, .ref (n0 + 1)), (1, .int a1)]) hX dX4_countAbove_8 rfl (by decide) rfl ?_
  exact zt_sub [2, 1, 0] rfl (t_X4_countAbove_9 hX hY 400 _ _ _ hf)

theorem dX5_meters_0 : decode cX5_meters 0 = .ok (.aload_n 0, 1) := by decide +kernel
theorem dX5_meters_1 : decode cX5_meters 1 = .ok (.getfield 10, 3) := by decide +kernel
theorem dX5_meters_4 : decode cX5_meters 4 = .ok (.getfield 44, 3) := by decide +kernel
theorem dX5_meters_7 : decode cX5_meters 7 = .ok (.ireturn, 1) := by decide +kernel
abbrev rm_X5_meters : Room := { frames := 0, cells := 0, slots := 0, locals := 0 }
theorem hy_X5_meters : yX5_meters.cls ≠ "java/lang/invoke/MethodHandle" ∧ yX5_meters.cls ≠ "java/lang/invoke/VarHandle" ∧ (parseMethodDescriptor yX5_meters.desc).map (fun d => d.parameters.length) = some 0 := by decide +kernel
def w_X5_meters  (σ : z_S) (Q : Int32 → z_S → Prop) : Prop :=
  Q (zg_i σ 1 0) σ
set_option maxHeartbeats 4000000 in
set_option maxRecDepth 100000 in
theorem c_X5_meters {l : Launch} {D : va_G} {cI cJ cM cS : ClassId} {n0 : Nat}  {σ : z_S} {Q : Int32 → z_S → Prop} (hf : w_X5_meters  σ Q) : z_ci l D cI cJ cM cS n0 yX5_meters cX5_meters 1 .int rm_X5_meters 0 0 [.ref (n0 + 0)] σ Q := by
  refine z_ofi (by decide +kernel) (Nat.le_of_ble_eq_true rfl) (fun p e s m args below meth c hX hY => ?_)
  unfold w_X5_meters at hf
  refine zt_L (L' := [(0, .ref (n0 + 0))]) rfl ?_
  refine zt_aload_n hX 0 dX5_meters_0 rfl rfl ?_
  refine zt_get_X5 hX (by decide) (zE_0 _ _) 0 (by decide) kw_234 rfl rfl dX5_meters_1 ?_
  refine zt_get_X4 hX (by decide) (zE_1 _ _) 0 (by decide) kw_88 rfl rfl dX5_meters_4 ?_
  exact zt_iret hX hY dX5_meters_7 hf

theorem dX5_meter_0 : decode cX5_meter 0 = .ok (.aload_n 0, 1) := by decide +kernel
theorem dX5_meter_1 : decode cX5_meter 1 = .ok (.getfield 10, 3) := by decide +kernel
theorem dX5_meter_4 : decode cX5_meter 4 = .ok (.iload_n 1, 1) := by decide +kernel
theorem dX5_meter_5 : decode cX5_meter 5 = .ok (.invokevirtual 48, 3) := by decide +kernel
theorem dX5_meter_8 : decode cX5_meter 8 = .ok (.ifCond .ne 6, 3) := by decide +kernel
theorem dX5_meter_11 : decode cX5_meter 11 = .ok (.ldc 52, 2) := by decide +kernel
theorem dX5_meter_13 : decode cX5_meter 13 = .ok (.ireturn, 1) := by decide +kernel
theorem dX5_meter_14 : decode cX5_meter 14 = .ok (.iload_n 2, 1) := by decide +kernel
theorem dX5_meter_15 : decode cX5_meter 15 = .ok (.tableswitch 109 0 6 #[41, 51, 61, 71, 81, 91, 100], 41) := by decide +kernel
theorem dX5_meter_56 : decode cX5_meter 56 = .ok (.aload_n 0, 1) := by decide +kernel
theorem dX5_meter_57 : decode cX5_meter 57 = .ok (.getfield 10, 3) := by decide +kernel
theorem dX5_meter_60 : decode cX5_meter 60 = .ok (.getfield 91, 3) := by decide +kernel
theorem dX5_meter_63 : decode cX5_meter 63 = .ok (.iload_n 1, 1) := by decide +kernel
theorem dX5_meter_64 : decode cX5_meter 64 = .ok (.iaload, 1) := by decide +kernel
theorem dX5_meter_65 : decode cX5_meter 65 = .ok (.ireturn, 1) := by decide +kernel
theorem dX5_meter_66 : decode cX5_meter 66 = .ok (.aload_n 0, 1) := by decide +kernel
theorem dX5_meter_67 : decode cX5_meter 67 = .ok (.getfield 10, 3) := by decide +kernel
theorem dX5_meter_70 : decode cX5_meter 70 = .ok (.getfield 67, 3) := by decide +kernel
theorem dX5_meter_73 : decode cX5_meter 73 = .ok (.iload_n 1, 1) := by decide +kernel
theorem dX5_meter_74 : decode cX5_meter 74 = .ok (.iaload, 1) := by decide +kernel
theorem dX5_meter_75 : decode cX5_meter 75 = .ok (.ireturn, 1) := by decide +kernel
theorem dX5_meter_76 : decode cX5_meter 76 = .ok (.aload_n 0, 1) := by decide +kernel
theorem dX5_meter_77 : decode cX5_meter 77 = .ok (.getfield 10, 3) := by decide +kernel
theorem dX5_meter_80 : decode cX5_meter 80 = .ok (.getfield 75, 3) := by decide +kernel
theorem dX5_meter_83 : decode cX5_meter 83 = .ok (.iload_n 1, 1) := by decide +kernel
theorem dX5_meter_84 : decode cX5_meter 84 = .ok (.iaload, 1) := by decide +kernel
theorem dX5_meter_85 : decode cX5_meter 85 = .ok (.ireturn, 1) := by decide +kernel
theorem dX5_meter_86 : decode cX5_meter 86 = .ok (.aload_n 0, 1) := by decide +kernel
theorem dX5_meter_87 : decode cX5_meter 87 = .ok (.getfield 10, 3) := by decide +kernel
theorem dX5_meter_90 : decode cX5_meter 90 = .ok (.getfield 82, 3) := by decide +kernel
theorem dX5_meter_93 : decode cX5_meter 93 = .ok (.iload_n 1, 1) := by decide +kernel
theorem dX5_meter_94 : decode cX5_meter 94 = .ok (.iaload, 1) := by decide +kernel
theorem dX5_meter_95 : decode cX5_meter 95 = .ok (.ireturn, 1) := by decide +kernel
theorem dX5_meter_96 : decode cX5_meter 96 = .ok (.aload_n 0, 1) := by decide +kernel
theorem dX5_meter_97 : decode cX5_meter 97 = .ok (.getfield 10, 3) := by decide +kernel
theorem dX5_meter_100 : decode cX5_meter 100 = .ok (.getfield 71, 3) := by decide +kernel
theorem dX5_meter_103 : decode cX5_meter 103 = .ok (.iload_n 1, 1) := by decide +kernel
theorem dX5_meter_104 : decode cX5_meter 104 = .ok (.iaload, 1) := by decide +kernel
theorem dX5_meter_105 : decode cX5_meter 105 = .ok (.ireturn, 1) := by decide +kernel
theorem dX5_meter_106 : decode cX5_meter 106 = .ok (.aload_n 0, 1) := by decide +kernel
theorem dX5_meter_107 : decode cX5_meter 107 = .ok (.getfield 10, 3) := by decide +kernel
theorem dX5_meter_110 : decode cX5_meter 110 = .ok (.iload_n 1, 1) := by decide +kernel
theorem dX5_meter_111 : decode cX5_meter 111 = .ok (.invokevirtual 94, 3) := by decide +kernel
theorem dX5_meter_114 : decode cX5_meter 114 = .ok (.ireturn, 1) := by decide +kernel
theorem dX5_meter_115 : decode cX5_meter 115 = .ok (.aload_n 0, 1) := by decide +kernel
theorem dX5_meter_116 : decode cX5_meter 116 = .ok (.getfield 10, 3) := by decide +kernel
theorem dX5_meter_119 : decode cX5_meter 119 = .ok (.iload_n 1, 1) := by decide +kernel
theorem dX5_meter_120 : decode cX5_meter 120 = .ok (.invokevirtual 97, 3) := by decide +kernel
theorem dX5_meter_123 : decode cX5_meter 123 = .ok (.ireturn, 1) := by decide +kernel
theorem dX5_meter_124 : decode cX5_meter 124 = .ok (.ldc 66, 2) := by decide +kernel
theorem dX5_meter_126 : decode cX5_meter 126 = .ok (.ireturn, 1) := by decide +kernel
abbrev rm_X5_meter : Room := { frames := 2, cells := 0, slots := 0, locals := 44 }
theorem hy_X5_meter : yX5_meter.cls ≠ "java/lang/invoke/MethodHandle" ∧ yX5_meter.cls ≠ "java/lang/invoke/VarHandle" ∧ (parseMethodDescriptor yX5_meter.desc).map (fun d => d.parameters.length) = some 2 := by decide +kernel
def w_X5_meter (a1 : Int32) (a2 : Int32) (σ : z_S) (Q : Int32 → z_S → Prop) : Prop :=
  w_X4_has a1 σ (fun r1 σ2 => if r1 = 0 then (Q (-2000000001 : Int32) σ2) else (if a2 = (0 : Int32) then (vp_in a1 10 ∧ Q (zg_i σ2 2 a1.toNatClampNeg) σ2) else (if a2 = (1 : Int32) then (vp_in a1 10 ∧ Q (zg_i σ2 3 a1.toNatClampNeg) σ2) else (if a2 = (2 : Int32) then (vp_in a1 10 ∧ Q (zg_i σ2 4 a1.toNatClampNeg) σ2) else (if a2 = (3 : Int32) then (vp_in a1 10 ∧ Q (zg_i σ2 5 a1.toNatClampNeg) σ2) else (if a2 = (4 : Int32) then (vp_in a1 10 ∧ Q (zg_i σ2 6 a1.toNatClampNeg) σ2) else (if a2 = (5 : Int32) then (w_X4_countChildren a1 σ2 (fun r15 σ16 => Q r15 σ16)) else (if a2 = (6 : Int32) then (w_X4_countAbove a1 σ2 (fun r18 σ19 => Q r18 σ19)) else (Q (-2000000002 : Int32) σ2)))))))))
set_option maxHeartbeats 4000000 in
set_option maxRecDepth 100000 in
theorem c_X5_meter {l : Launch} {D : va_G} {cI cJ cM cS : ClassId} {n0 : Nat} {a1 : Int32} {a2 : Int32} {σ : z_S} {Q : Int32 → z_S → Prop} (hf : w_X5_meter a1 a2 σ Q) : z_ci l D cI cJ cM cS n0 yX5_meter cX5_meter 3 .int rm_X5_meter 0 0 [.ref (n0 + 0), .int a1, .int a2] σ Q := by
  refine z_ofi (by decide +kernel) (Nat.le_of_ble_eq_true rfl) (fun p e s m args below meth c hX hY => ?_)
  unfold w_X5_meter at hf
  refine zt_L (L' := [(0, .ref (n0 + 0)), (1, .int a1), (2, .int a2)]) rfl ?_
  refine zt_aload_n hX 0 dX5_meter_0 rfl rfl ?_
  refine zt_get_X5 hX (by decide) (zE_0 _ _) 0 (by decide) kw_234 rfl rfl dX5_meter_1 ?_
  refine zt_iload_n hX 1 dX5_meter_4 rfl rfl ?_
  refine zt_calliV hX hY (av := [.int a1]) (c_X4_has hf) dX5_meter_5 rfl kw_254 kw_255 kw_256 kw_62 kw_257 ⟨rfl, rfl⟩ hy_X4_has ⟨by decide, by decide⟩ ⟨by decide, by decide⟩ (Nat.le_of_ble_eq_true rfl) (by decide) (zE_1 _ _) rfl rfl (fun r1 σ2 hf => ?_)
  refine zt_if_ne hX dX5_meter_8 (tgt := 14) (by decide) (fun c3 => ?_) (fun c3 => ?_)
  · replace hf := z_neg hf c3
    refine zt_iload_n hX 2 dX5_meter_14 rfl rfl ?_
    by_cases c4 : a2 = (0 : Int32)
    · replace hf := z_pos hf c4
      refine zt_tabIn hX dX5_meter_15 (by rw [c4]; decide) (by rw [c4]; decide) (off := 41) (by rw [c4]; rfl) (tgt := 56) (by decide) ?_
      refine zt_aload_n hX 0 dX5_meter_56 rfl rfl ?_
      refine zt_get_X5 hX (by decide) (zE_0 _ _) 0 (by decide) kw_234 rfl rfl dX5_meter_57 ?_
      refine zt_get_X4 hX (by decide) (zE_1 _ _) 4 (by decide) kw_102 rfl rfl dX5_meter_60 ?_
      refine zt_iload_n hX 1 dX5_meter_63 rfl rfl ?_
      obtain ⟨h5, hf⟩ := hf
      refine zt_iaload hX dX5_meter_64 (by decide) rfl h5 ?_
      exact zt_iret hX hY dX5_meter_65 hf
    replace hf := z_neg hf c4
    by_cases c6 : a2 = (1 : Int32)
    · replace hf := z_pos hf c6
      refine zt_tabIn hX dX5_meter_15 (by rw [c6]; decide) (by rw [c6]; decide) (off := 51) (by rw [c6]; rfl) (tgt := 66) (by decide) ?_
      refine zt_aload_n hX 0 dX5_meter_66 rfl rfl ?_
      refine zt_get_X5 hX (by decide) (zE_0 _ _) 0 (by decide) kw_234 rfl rfl dX5_meter_67 ?_
      refine zt_get_X4 hX (by decide) (zE_1 _ _) 5 (by decide) kw_105 rfl rfl dX5_meter_70 ?_
      refine zt_iload_n hX 1 dX5_meter_73 rfl rfl ?_
      obtain ⟨h7, hf⟩ := hf
      refine zt_iaload hX dX5_meter_74 (by decide) rfl h7 ?_
      exact zt_iret hX hY dX5_meter_75 hf
    replace hf := z_neg hf c6
    by_cases c8 : a2 = (2 : Int32)
    · replace hf := z_pos hf c8
      refine zt_tabIn hX dX5_meter_15 (by rw [c8]; decide) (by rw [c8]; decide) (off := 61) (by rw [c8]; rfl) (tgt := 76) (by decide) ?_
      refine zt_aload_n hX 0 dX5_meter_76 rfl rfl ?_
      refine zt_get_X5 hX (by decide) (zE_0 _ _) 0 (by decide) kw_234 rfl rfl dX5_meter_77 ?_
      refine zt_get_X4 hX (by decide) (zE_1 _ _) 6 (by decide) kw_107 rfl rfl dX5_meter_80 ?_
      refine zt_iload_n hX 1 dX5_meter_83 rfl rfl ?_
      obtain ⟨h9, hf⟩ := hf
      refine zt_iaload hX dX5_meter_84 (by decide) rfl h9 ?_
      exact zt_iret hX hY dX5_meter_85 hf
    replace hf := z_neg hf c8
    by_cases c10 : a2 = (3 : Int32)
    · replace hf := z_pos hf c10
      refine zt_tabIn hX dX5_meter_15 (by rw [c10]; decide) (by rw [c10]; decide) (off := 71) (by rw [c10]; rfl) (tgt := 86) (by decide) ?_
      refine zt_aload_n hX 0 dX5_meter_86 rfl rfl ?_
      refine zt_get_X5 hX (by decide) (zE_0 _ _) 0 (by decide) kw_234 rfl rfl dX5_meter_87 ?_
      refine zt_get_X4 hX (by decide) (zE_1 _ _) 7 (by decide) kw_110 rfl rfl dX5_meter_90 ?_
      refine zt_iload_n hX 1 dX5_meter_93 rfl rfl ?_
      obtain ⟨h11, hf⟩ := hf
      refine zt_iaload hX dX5_meter_94 (by decide) rfl h11 ?_
      exact zt_iret hX hY dX5_meter_95 hf
    replace hf := z_neg hf c10
    by_cases c12 : a2 = (4 : Int32)
    · replace hf := z_pos hf c12
      refine zt_tabIn hX dX5_meter_15 (by rw [c12]; decide) (by rw [c12]; decide) (off := 81) (by rw [c12]; rfl) (tgt := 96) (by decide) ?_
      refine zt_aload_n hX 0 dX5_meter_96 rfl rfl ?_
      refine zt_get_X5 hX (by decide) (zE_0 _ _) 0 (by decide) kw_234 rfl rfl dX5_meter_97 ?_
      refine zt_get_X4 hX (by decide) (zE_1 _ _) 8 (by decide) kw_112 rfl rfl dX5_meter_100 ?_
      refine zt_iload_n hX 1 dX5_meter_103 rfl rfl ?_
      obtain ⟨h13, hf⟩ := hf
      refine zt_iaload hX dX5_meter_104 (by decide) rfl h13 ?_
      exact zt_iret hX hY dX5_meter_105 hf
    replace hf := z_neg hf c12
    by_cases c14 : a2 = (5 : Int32)
    · replace hf := z_pos hf c14
      refine zt_tabIn hX dX5_meter_15 (by rw [c14]; decide) (by rw [c14]; decide) (off := 91) (by rw [c14]; rfl) (tgt := 106) (by decide) ?_
      refine zt_aload_n hX 0 dX5_meter_106 rfl rfl ?_
      refine zt_get_X5 hX (by decide) (zE_0 _ _) 0 (by decide) kw_234 rfl rfl dX5_meter_107 ?_
      refine zt_iload_n hX 1 dX5_meter_110 rfl rfl ?_
      refine zt_calliV hX hY (av := [.int a1]) (c_X4_countChildren hf) dX5_meter_111 rfl kw_312 kw_313 kw_314 kw_62 kw_315 ⟨rfl, rfl⟩ hy_X4_countChildren ⟨by decide, by decide⟩ ⟨by decide, by decide⟩ (Nat.le_of_ble_eq_true rfl) (by decide) (zE_1 _ _) rfl rfl (fun r15 σ16 hf => ?_)
      exact zt_iret hX hY dX5_meter_114 hf
    replace hf := z_neg hf c14
    by_cases c17 : a2 = (6 : Int32)
    · replace hf := z_pos hf c17
      refine zt_tabIn hX dX5_meter_15 (by rw [c17]; decide) (by rw [c17]; decide) (off := 100) (by rw [c17]; rfl) (tgt := 115) (by decide) ?_
      refine zt_aload_n hX 0 dX5_meter_115 rfl rfl ?_
      refine zt_get_X5 hX (by decide) (zE_0 _ _) 0 (by decide) kw_234 rfl rfl dX5_meter_116 ?_
      refine zt_iload_n hX 1 dX5_meter_119 rfl rfl ?_
      refine zt_calliV hX hY (av := [.int a1]) (c_X4_countAbove hf) dX5_meter_120 rfl kw_316 kw_317 kw_318 kw_62 kw_319 ⟨rfl, rfl⟩ hy_X4_countAbove ⟨by decide, by decide⟩ ⟨by decide, by decide⟩ (Nat.le_of_ble_eq_true rfl) (by decide) (zE_1 _ _) rfl rfl (fun r18 σ19 hf => ?_)
      exact zt_iret hX hY dX5_meter_123 hf
    replace hf := z_neg hf c17
    have qc4 := lv_neT c4 (show (0 : Int32).toInt = 0 from rfl)
    have qc6 := lv_neT c6 (show (1 : Int32).toInt = 1 from rfl)
    have qc8 := lv_neT c8 (show (2 : Int32).toInt = 2 from rfl)
    have qc10 := lv_neT c10 (show (3 : Int32).toInt = 3 from rfl)
    have qc12 := lv_neT c12 (show (4 : Int32).toInt = 4 from rfl)
    have qc14 := lv_neT c14 (show (5 : Int32).toInt = 5 from rfl)
    have qc17 := lv_neT c17 (show (6 : Int32).toInt = 6 from rfl)
    refine zt_tabOut hX dX5_meter_15 (by omega) (tgt := 124) (by decide) ?_
    refine zt_ldc hX dX5_meter_124 kw_293 ?_
    exact zt_iret hX hY dX5_meter_126 hf
  · replace hf := z_pos hf c3
    refine zt_ldc hX dX5_meter_11 kw_258 ?_
    exact zt_iret hX hY dX5_meter_13 hf

theorem dX5_child_0 : decode cX5_child 0 = .ok (.aload_n 0, 1) := by decide +kernel
theorem dX5_child_1 : decode cX5_child 1 = .ok (.getfield 10, 3) := by decide +kernel
theorem dX5_child_4 : decode cX5_child 4 = .ok (.iload_n 1, 1) := by decide +kernel
theorem dX5_child_5 : decode cX5_child 5 = .ok (.invokevirtual 48, 3) := by decide +kernel
theorem dX5_child_8 : decode cX5_child 8 = .ok (.ifCond .ne 6, 3) := by decide +kernel
theorem dX5_child_11 : decode cX5_child 11 = .ok (.ldc 52, 2) := by decide +kernel
theorem dX5_child_13 : decode cX5_child 13 = .ok (.ireturn, 1) := by decide +kernel
theorem dX5_child_14 : decode cX5_child 14 = .ok (.aload_n 0, 1) := by decide +kernel
theorem dX5_child_15 : decode cX5_child 15 = .ok (.getfield 10, 3) := by decide +kernel
theorem dX5_child_18 : decode cX5_child 18 = .ok (.iload_n 1, 1) := by decide +kernel
theorem dX5_child_19 : decode cX5_child 19 = .ok (.iload_n 2, 1) := by decide +kernel
theorem dX5_child_20 : decode cX5_child 20 = .ok (.invokevirtual 100, 3) := by decide +kernel
theorem dX5_child_23 : decode cX5_child 23 = .ok (.istore_n 3, 1) := by decide +kernel
theorem dX5_child_24 : decode cX5_child 24 = .ok (.iload_n 3, 1) := by decide +kernel
theorem dX5_child_25 : decode cX5_child 25 = .ok (.ldc 104, 2) := by decide +kernel
theorem dX5_child_27 : decode cX5_child 27 = .ok (.if_icmp .ne 8, 3) := by decide +kernel
theorem dX5_child_30 : decode cX5_child 30 = .ok (.ldc 52, 2) := by decide +kernel
theorem dX5_child_32 : decode cX5_child 32 = .ok (.goto 4, 3) := by decide +kernel
theorem dX5_child_35 : decode cX5_child 35 = .ok (.iload_n 3, 1) := by decide +kernel
theorem dX5_child_36 : decode cX5_child 36 = .ok (.ireturn, 1) := by decide +kernel
abbrev rm_X5_child : Room := { frames := 1, cells := 0, slots := 0, locals := 24 }
theorem hy_X5_child : yX5_child.cls ≠ "java/lang/invoke/MethodHandle" ∧ yX5_child.cls ≠ "java/lang/invoke/VarHandle" ∧ (parseMethodDescriptor yX5_child.desc).map (fun d => d.parameters.length) = some 2 := by decide +kernel
def w_X5_child (a1 : Int32) (a2 : Int32) (σ : z_S) (Q : Int32 → z_S → Prop) : Prop :=
  w_X4_has a1 σ (fun r1 σ2 => if r1 = 0 then (Q (-2000000001 : Int32) σ2) else (w_X4_findChild a1 a2 σ2 (fun r4 σ5 => if r4 = (-2000000000 : Int32) then (Q (-2000000001 : Int32) σ5) else (Q r4 σ5))))
set_option maxHeartbeats 4000000 in
set_option maxRecDepth 100000 in
theorem c_X5_child {l : Launch} {D : va_G} {cI cJ cM cS : ClassId} {n0 : Nat} {a1 : Int32} {a2 : Int32} {σ : z_S} {Q : Int32 → z_S → Prop} (hf : w_X5_child a1 a2 σ Q) : z_ci l D cI cJ cM cS n0 yX5_child cX5_child 4 .int rm_X5_child 0 0 [.ref (n0 + 0), .int a1, .int a2] σ Q := by
  refine z_ofi (by decide +kernel) (Nat.le_of_ble_eq_true rfl) (fun p e s m args below meth c hX hY => ?_)
  unfold w_X5_child at hf
  refine zt_L (L' := [(0, .ref (n0 + 0)), (1, .int a1), (2, .int a2)]) rfl ?_
  refine zt_aload_n hX 0 dX5_child_0 rfl rfl ?_
  refine zt_get_X5 hX (by decide) (zE_0 _ _) 0 (by decide) kw_234 rfl rfl dX5_child_1 ?_
  refine zt_iload_n hX 1 dX5_child_4 rfl rfl ?_
  refine zt_calliV hX hY (av := [.int a1]) (c_X4_has hf) dX5_child_5 rfl kw_254 kw_255 kw_256 kw_62 kw_257 ⟨rfl, rfl⟩ hy_X4_has ⟨by decide, by decide⟩ ⟨by decide, by decide⟩ (Nat.le_of_ble_eq_true rfl) (by decide) (zE_1 _ _) rfl rfl (fun r1 σ2 hf => ?_)
  refine zt_if_ne hX dX5_child_8 (tgt := 14) (by decide) (fun c3 => ?_) (fun c3 => ?_)
  · replace hf := z_neg hf c3
    refine zt_aload_n hX 0 dX5_child_14 rfl rfl ?_
    refine zt_get_X5 hX (by decide) (zE_0 _ _) 0 (by decide) kw_234 rfl rfl dX5_child_15 ?_
    refine zt_iload_n hX 1 dX5_child_18 rfl rfl ?_
    refine zt_iload_n hX 2 dX5_child_19 rfl rfl ?_
    refine zt_calliV hX hY (av := [.int a1, .int a2]) (c_X4_findChild hf) dX5_child_20 rfl kw_325 kw_326 kw_327 kw_62 kw_328 ⟨rfl, rfl⟩ hy_X4_findChild ⟨by decide, by decide⟩ ⟨by decide, by decide⟩ (Nat.le_of_ble_eq_true rfl) (by decide) (zE_1 _ _) rfl rfl (fun r4 σ5 hf => ?_)
    refine zt_istore_n (L' := [(3, .int r4), (0, .ref (n0 + 0)), (1, .int a1), (2, .int a2)]) hX dX5_child_23 rfl (by decide) rfl ?_
    refine zt_iload_n hX 0 dX5_child_24 rfl rfl ?_
    refine zt_ldc hX dX5_child_25 kw_329 ?_
    refine zt_icmp_ne hX dX5_child_27 (tgt := 35) (by decide) (fun c6 => ?_) (fun c6 => ?_)
    · replace hf := z_neg hf c6
      refine zt_iload_n hX 0 dX5_child_35 rfl rfl ?_
      exact zt_iret hX hY dX5_child_36 hf
    · replace hf := z_pos hf c6
      refine zt_ldc hX dX5_child_30 kw_258 ?_
      refine zt_goto hX dX5_child_32 (tgt := 36) (by decide) ?_
      exact zt_iret hX hY dX5_child_36 hf
  · replace hf := z_pos hf c3
    refine zt_ldc hX dX5_child_11 kw_258 ?_
    exact zt_iret hX hY dX5_child_13 hf

theorem dX5_reading_0 : decode cX5_reading 0 = .ok (.aload_n 0, 1) := by decide +kernel
theorem dX5_reading_1 : decode cX5_reading 1 = .ok (.getfield 10, 3) := by decide +kernel
theorem dX5_reading_4 : decode cX5_reading 4 = .ok (.iload_n 1, 1) := by decide +kernel
theorem dX5_reading_5 : decode cX5_reading 5 = .ok (.invokevirtual 48, 3) := by decide +kernel
theorem dX5_reading_8 : decode cX5_reading 8 = .ok (.ifCond .eq 10, 3) := by decide +kernel
theorem dX5_reading_11 : decode cX5_reading 11 = .ok (.iload_n 2, 1) := by decide +kernel
theorem dX5_reading_12 : decode cX5_reading 12 = .ok (.invokestatic 105, 3) := by decide +kernel
theorem dX5_reading_15 : decode cX5_reading 15 = .ok (.ifCond .ne 6, 3) := by decide +kernel
theorem dX5_reading_18 : decode cX5_reading 18 = .ok (.ldc 52, 2) := by decide +kernel
theorem dX5_reading_20 : decode cX5_reading 20 = .ok (.ireturn, 1) := by decide +kernel
theorem dX5_reading_21 : decode cX5_reading 21 = .ok (.aload_n 0, 1) := by decide +kernel
theorem dX5_reading_22 : decode cX5_reading 22 = .ok (.getfield 10, 3) := by decide +kernel
theorem dX5_reading_25 : decode cX5_reading 25 = .ok (.getfield 111, 3) := by decide +kernel
theorem dX5_reading_28 : decode cX5_reading 28 = .ok (.iload_n 1, 1) := by decide +kernel
theorem dX5_reading_29 : decode cX5_reading 29 = .ok (.aaload, 1) := by decide +kernel
theorem dX5_reading_30 : decode cX5_reading 30 = .ok (.iload_n 2, 1) := by decide +kernel
theorem dX5_reading_31 : decode cX5_reading 31 = .ok (.iaload, 1) := by decide +kernel
theorem dX5_reading_32 : decode cX5_reading 32 = .ok (.ireturn, 1) := by decide +kernel
abbrev rm_X5_reading : Room := { frames := 2, cells := 0, slots := 0, locals := 42 }
theorem hy_X5_reading : yX5_reading.cls ≠ "java/lang/invoke/MethodHandle" ∧ yX5_reading.cls ≠ "java/lang/invoke/VarHandle" ∧ (parseMethodDescriptor yX5_reading.desc).map (fun d => d.parameters.length) = some 2 := by decide +kernel
def w_X5_reading (a1 : Int32) (a2 : Int32) (σ : z_S) (Q : Int32 → z_S → Prop) : Prop :=
  w_X4_has a1 σ (fun r1 σ2 => if r1 = 0 then (Q (-2000000001 : Int32) σ2) else (w_X5_isBoundary a2 σ2 (fun r4 σ5 => if r4 = 0 then (Q (-2000000001 : Int32) σ5) else (vp_in a1 10 ∧ vp_in a2 13 ∧ Q (zg_i σ5 (8 + a1.toNatClampNeg) a2.toNatClampNeg) σ5))))
set_option maxHeartbeats 4000000 in
set_option maxRecDepth 100000 in
theorem c_X5_reading {l : Launch} {D : va_G} {cI cJ cM cS : ClassId} {n0 : Nat} {a1 : Int32} {a2 : Int32} {σ : z_S} {Q : Int32 → z_S → Prop} (hf : w_X5_reading a1 a2 σ Q) : z_ci l D cI cJ cM cS n0 yX5_reading cX5_reading 3 .int rm_X5_reading 0 0 [.ref (n0 + 0), .int a1, .int a2] σ Q := by
  refine z_ofi (by decide +kernel) (Nat.le_of_ble_eq_true rfl) (fun p e s m args below meth c hX hY => ?_)
  unfold w_X5_reading at hf
  refine zt_L (L' := [(0, .ref (n0 + 0)), (1, .int a1), (2, .int a2)]) rfl ?_
  refine zt_aload_n hX 0 dX5_reading_0 rfl rfl ?_
  refine zt_get_X5 hX (by decide) (zE_0 _ _) 0 (by decide) kw_234 rfl rfl dX5_reading_1 ?_
  refine zt_iload_n hX 1 dX5_reading_4 rfl rfl ?_
  refine zt_calliV hX hY (av := [.int a1]) (c_X4_has hf) dX5_reading_5 rfl kw_254 kw_255 kw_256 kw_62 kw_257 ⟨rfl, rfl⟩ hy_X4_has ⟨by decide, by decide⟩ ⟨by decide, by decide⟩ (Nat.le_of_ble_eq_true rfl) (by decide) (zE_1 _ _) rfl rfl (fun r1 σ2 hf => ?_)
  refine zt_if_eq hX dX5_reading_8 (tgt := 18) (by decide) (fun c3 => ?_) (fun c3 => ?_)
  · replace hf := z_pos hf c3
    refine zt_ldc hX dX5_reading_18 kw_258 ?_
    exact zt_iret hX hY dX5_reading_20 hf
  · replace hf := z_neg hf c3
    refine zt_iload_n hX 2 dX5_reading_11 rfl rfl ?_
    refine zt_calliS hX hY (av := [.int a2]) (c_X5_isBoundary hf) dX5_reading_12 rfl kw_334 kw_335 kw_61 kw_336 ⟨rfl, rfl⟩ hy_X5_isBoundary ⟨by decide, by decide⟩ ⟨by decide, by decide⟩ (Nat.le_of_ble_eq_true rfl) (fun r4 σ5 hf => ?_)
    refine zt_if_ne hX dX5_reading_15 (tgt := 21) (by decide) (fun c6 => ?_) (fun c6 => ?_)
    · replace hf := z_neg hf c6
      refine zt_aload_n hX 0 dX5_reading_21 rfl rfl ?_
      refine zt_get_X5 hX (by decide) (zE_0 _ _) 0 (by decide) kw_234 rfl rfl dX5_reading_22 ?_
      refine zt_get_X4 hX (by decide) (zE_1 _ _) 9 (by decide) kw_115 rfl rfl dX5_reading_25 ?_
      refine zt_iload_n hX 1 dX5_reading_28 rfl rfl ?_
      obtain ⟨h7, hf⟩ := hf
      refine zt_aaloadM hX dX5_reading_29 (by decide) rfl (k1 := 8) rfl h7 ?_
      refine zt_iload_n hX 2 dX5_reading_30 rfl rfl ?_
      obtain ⟨h8, hf⟩ := hf
      refine zt_iaload hX dX5_reading_31 (z_row8 (z_lt h7)) (z_sh8 (z_lt h7)) h8 ?_
      exact zt_iret hX hY dX5_reading_32 hf
    · replace hf := z_pos hf c6
      refine zt_ldc hX dX5_reading_18 kw_258 ?_
      exact zt_iret hX hY dX5_reading_20 hf

theorem dX5_isInterval_0 : decode cX5_isInterval 0 = .ok (.iload_n 0, 1) := by decide +kernel
theorem dX5_isInterval_1 : decode cX5_isInterval 1 = .ok (.iconst 0, 1) := by decide +kernel
theorem dX5_isInterval_2 : decode cX5_isInterval 2 = .ok (.bipush 11, 2) := by decide +kernel
theorem dX5_isInterval_4 : decode cX5_isInterval 4 = .ok (.invokestatic 62, 3) := by decide +kernel
theorem dX5_isInterval_7 : decode cX5_isInterval 7 = .ok (.ireturn, 1) := by decide +kernel
abbrev rm_X5_isInterval : Room := { frames := 1, cells := 0, slots := 0, locals := 22 }
theorem hy_X5_isInterval : yX5_isInterval.cls ≠ "java/lang/invoke/MethodHandle" ∧ yX5_isInterval.cls ≠ "java/lang/invoke/VarHandle" ∧ (parseMethodDescriptor yX5_isInterval.desc).map (fun d => d.parameters.length) = some 1 := by decide +kernel
def w_X5_isInterval (a0 : Int32) (σ : z_S) (Q : Int32 → z_S → Prop) : Prop :=
  w_X5_within a0 (0 : Int32) (11 : Int32) σ (fun r1 σ2 => (r1 = 0 ∨ r1 = 1) ∧ Q r1 σ2)
set_option maxHeartbeats 4000000 in
set_option maxRecDepth 100000 in
theorem c_X5_isInterval {l : Launch} {D : va_G} {cI cJ cM cS : ClassId} {n0 : Nat} {a0 : Int32} {σ : z_S} {Q : Int32 → z_S → Prop} (hf : w_X5_isInterval a0 σ Q) : z_ci l D cI cJ cM cS n0 yX5_isInterval cX5_isInterval 1 .boolean rm_X5_isInterval 0 0 [.int a0] σ Q := by
  refine z_ofi (by decide +kernel) (Nat.le_of_ble_eq_true rfl) (fun p e s m args below meth c hX hY => ?_)
  unfold w_X5_isInterval at hf
  refine zt_L (L' := [(0, .int a0)]) rfl ?_
  refine zt_iload_n hX 0 dX5_isInterval_0 rfl rfl ?_
  refine zt_iconst hX dX5_isInterval_1 (v := (0 : Int32)) (by decide) ?_
  refine zt_bipush hX dX5_isInterval_2 (v := (11 : Int32)) (by decide) ?_
  refine zt_calliS hX hY (av := [.int a0, .int (0 : Int32), .int (11 : Int32)]) (c_X5_within hf) dX5_isInterval_4 rfl kw_290 kw_291 kw_61 kw_292 ⟨rfl, rfl⟩ hy_X5_within ⟨by decide, by decide⟩ ⟨by decide, by decide⟩ (Nat.le_of_ble_eq_true rfl) (fun r1 σ2 hf => ?_)
  exact zt_zret hX hY dX5_isInterval_7 hf

theorem dX5_raw_0 : decode cX5_raw 0 = .ok (.aload_n 0, 1) := by decide +kernel
theorem dX5_raw_1 : decode cX5_raw 1 = .ok (.getfield 10, 3) := by decide +kernel
theorem dX5_raw_4 : decode cX5_raw 4 = .ok (.iload_n 1, 1) := by decide +kernel
theorem dX5_raw_5 : decode cX5_raw 5 = .ok (.invokevirtual 48, 3) := by decide +kernel
theorem dX5_raw_8 : decode cX5_raw 8 = .ok (.ifCond .eq 10, 3) := by decide +kernel
theorem dX5_raw_11 : decode cX5_raw 11 = .ok (.iload_n 2, 1) := by decide +kernel
theorem dX5_raw_12 : decode cX5_raw 12 = .ok (.invokestatic 115, 3) := by decide +kernel
theorem dX5_raw_15 : decode cX5_raw 15 = .ok (.ifCond .ne 6, 3) := by decide +kernel
theorem dX5_raw_18 : decode cX5_raw 18 = .ok (.ldc 52, 2) := by decide +kernel
theorem dX5_raw_20 : decode cX5_raw 20 = .ok (.ireturn, 1) := by decide +kernel
theorem dX5_raw_21 : decode cX5_raw 21 = .ok (.aload_n 0, 1) := by decide +kernel
theorem dX5_raw_22 : decode cX5_raw 22 = .ok (.getfield 10, 3) := by decide +kernel
theorem dX5_raw_25 : decode cX5_raw 25 = .ok (.iload_n 1, 1) := by decide +kernel
theorem dX5_raw_26 : decode cX5_raw 26 = .ok (.iload_n 2, 1) := by decide +kernel
theorem dX5_raw_27 : decode cX5_raw 27 = .ok (.iload_n 2, 1) := by decide +kernel
theorem dX5_raw_28 : decode cX5_raw 28 = .ok (.iconst 1, 1) := by decide +kernel
theorem dX5_raw_29 : decode cX5_raw 29 = .ok (.iadd, 1) := by decide +kernel
theorem dX5_raw_30 : decode cX5_raw 30 = .ok (.invokevirtual 118, 3) := by decide +kernel
theorem dX5_raw_33 : decode cX5_raw 33 = .ok (.ireturn, 1) := by decide +kernel
abbrev rm_X5_raw : Room := { frames := 2, cells := 0, slots := 0, locals := 46 }
theorem hy_X5_raw : yX5_raw.cls ≠ "java/lang/invoke/MethodHandle" ∧ yX5_raw.cls ≠ "java/lang/invoke/VarHandle" ∧ (parseMethodDescriptor yX5_raw.desc).map (fun d => d.parameters.length) = some 2 := by decide +kernel
def w_X5_raw (a1 : Int32) (a2 : Int32) (σ : z_S) (Q : Int32 → z_S → Prop) : Prop :=
  w_X4_has a1 σ (fun r1 σ2 => if r1 = 0 then (Q (-2000000001 : Int32) σ2) else (w_X5_isInterval a2 σ2 (fun r4 σ5 => if r4 = 0 then (Q (-2000000001 : Int32) σ5) else (w_X4_advance a1 a2 (a2 + (1 : Int32)) σ5 (fun r7 σ8 => Q r7 σ8)))))
set_option maxHeartbeats 4000000 in
set_option maxRecDepth 100000 in
theorem c_X5_raw {l : Launch} {D : va_G} {cI cJ cM cS : ClassId} {n0 : Nat} {a1 : Int32} {a2 : Int32} {σ : z_S} {Q : Int32 → z_S → Prop} (hf : w_X5_raw a1 a2 σ Q) : z_ci l D cI cJ cM cS n0 yX5_raw cX5_raw 3 .int rm_X5_raw 0 0 [.ref (n0 + 0), .int a1, .int a2] σ Q := by
  refine z_ofi (by decide +kernel) (Nat.le_of_ble_eq_true rfl) (fun p e s m args below meth c hX hY => ?_)
  unfold w_X5_raw at hf
  refine zt_L (L' := [(0, .ref (n0 + 0)), (1, .int a1), (2, .int a2)]) rfl ?_
  refine zt_aload_n hX 0 dX5_raw_0 rfl rfl ?_
  refine zt_get_X5 hX (by decide) (zE_0 _ _) 0 (by decide) kw_234 rfl rfl dX5_raw_1 ?_
  refine zt_iload_n hX 1 dX5_raw_4 rfl rfl ?_
  refine zt_calliV hX hY (av := [.int a1]) (c_X4_has hf) dX5_raw_5 rfl kw_254 kw_255 kw_256 kw_62 kw_257 ⟨rfl, rfl⟩ hy_X4_has ⟨by decide, by decide⟩ ⟨by decide, by decide⟩ (Nat.le_of_ble_eq_true rfl) (by decide) (zE_1 _ _) rfl rfl (fun r1 σ2 hf => ?_)
  refine zt_if_eq hX dX5_raw_8 (tgt := 18) (by decide) (fun c3 => ?_) (fun c3 => ?_)
  · replace hf := z_pos hf c3
    refine zt_ldc hX dX5_raw_18 kw_258 ?_
    exact zt_iret hX hY dX5_raw_20 hf
  · replace hf := z_neg hf c3
    refine zt_iload_n hX 2 dX5_raw_11 rfl rfl ?_
    refine zt_calliS hX hY (av := [.int a2]) (c_X5_isInterval hf) dX5_raw_12 rfl kw_359 kw_360 kw_61 kw_361 ⟨rfl, rfl⟩ hy_X5_isInterval ⟨by decide, by decide⟩ ⟨by decide, by decide⟩ (Nat.le_of_ble_eq_true rfl) (fun r4 σ5 hf => ?_)
    refine zt_if_ne hX dX5_raw_15 (tgt := 21) (by decide) (fun c6 => ?_) (fun c6 => ?_)
    · replace hf := z_neg hf c6
      refine zt_aload_n hX 0 dX5_raw_21 rfl rfl ?_
      refine zt_get_X5 hX (by decide) (zE_0 _ _) 0 (by decide) kw_234 rfl rfl dX5_raw_22 ?_
      refine zt_iload_n hX 1 dX5_raw_25 rfl rfl ?_
      refine zt_iload_n hX 2 dX5_raw_26 rfl rfl ?_
      refine zt_iload_n hX 2 dX5_raw_27 rfl rfl ?_
      refine zt_iconst hX dX5_raw_28 (v := (1 : Int32)) (by decide) ?_
      refine zt_iadd hX dX5_raw_29 ?_
      refine zt_calliV hX hY (av := [.int a1, .int a2, .int (a2 + (1 : Int32))]) (c_X4_advance hf) dX5_raw_30 rfl kw_362 kw_363 kw_364 kw_62 kw_365 ⟨rfl, rfl⟩ hy_X4_advance ⟨by decide, by decide⟩ ⟨by decide, by decide⟩ (Nat.le_of_ble_eq_true rfl) (by decide) (zE_1 _ _) rfl rfl (fun r7 σ8 hf => ?_)
      exact zt_iret hX hY dX5_raw_33 hf
    · replace hf := z_pos hf c6
      refine zt_ldc hX dX5_raw_18 kw_258 ?_
      exact zt_iret hX hY dX5_raw_20 hf

theorem dX5_status_0 : decode cX5_status 0 = .ok (.aload_n 0, 1) := by decide +kernel
theorem dX5_status_1 : decode cX5_status 1 = .ok (.getfield 10, 3) := by decide +kernel
theorem dX5_status_4 : decode cX5_status 4 = .ok (.iload_n 1, 1) := by decide +kernel
theorem dX5_status_5 : decode cX5_status 5 = .ok (.invokevirtual 48, 3) := by decide +kernel
theorem dX5_status_8 : decode cX5_status 8 = .ok (.ifCond .eq 10, 3) := by decide +kernel
theorem dX5_status_11 : decode cX5_status 11 = .ok (.iload_n 2, 1) := by decide +kernel
theorem dX5_status_12 : decode cX5_status 12 = .ok (.invokestatic 115, 3) := by decide +kernel
theorem dX5_status_15 : decode cX5_status 15 = .ok (.ifCond .ne 6, 3) := by decide +kernel
theorem dX5_status_18 : decode cX5_status 18 = .ok (.ldc 52, 2) := by decide +kernel
theorem dX5_status_20 : decode cX5_status 20 = .ok (.ireturn, 1) := by decide +kernel
theorem dX5_status_21 : decode cX5_status 21 = .ok (.aload_n 0, 1) := by decide +kernel
theorem dX5_status_22 : decode cX5_status 22 = .ok (.getfield 10, 3) := by decide +kernel
theorem dX5_status_25 : decode cX5_status 25 = .ok (.iload_n 1, 1) := by decide +kernel
theorem dX5_status_26 : decode cX5_status 26 = .ok (.iload_n 2, 1) := by decide +kernel
theorem dX5_status_27 : decode cX5_status 27 = .ok (.invokevirtual 122, 3) := by decide +kernel
theorem dX5_status_30 : decode cX5_status 30 = .ok (.ireturn, 1) := by decide +kernel
abbrev rm_X5_status : Room := { frames := 3, cells := 0, slots := 0, locals := 71 }
theorem hy_X5_status : yX5_status.cls ≠ "java/lang/invoke/MethodHandle" ∧ yX5_status.cls ≠ "java/lang/invoke/VarHandle" ∧ (parseMethodDescriptor yX5_status.desc).map (fun d => d.parameters.length) = some 2 := by decide +kernel
def w_X5_status (a1 : Int32) (a2 : Int32) (σ : z_S) (Q : Int32 → z_S → Prop) : Prop :=
  w_X4_has a1 σ (fun r1 σ2 => if r1 = 0 then (Q (-2000000001 : Int32) σ2) else (w_X5_isInterval a2 σ2 (fun r4 σ5 => if r4 = 0 then (Q (-2000000001 : Int32) σ5) else (w_X4_judge a1 a2 σ5 (fun r7 σ8 => Q r7 σ8)))))
set_option maxHeartbeats 4000000 in
set_option maxRecDepth 100000 in
theorem c_X5_status {l : Launch} {D : va_G} {cI cJ cM cS : ClassId} {n0 : Nat} {a1 : Int32} {a2 : Int32} {σ : z_S} {Q : Int32 → z_S → Prop} (hf : w_X5_status a1 a2 σ Q) : z_ci l D cI cJ cM cS n0 yX5_status cX5_status 3 .int rm_X5_status 0 0 [.ref (n0 + 0), .int a1, .int a2] σ Q := by
  refine z_ofi (by decide +kernel) (Nat.le_of_ble_eq_true rfl) (fun p e s m args below meth c hX hY => ?_)
  unfold w_X5_status at hf
  refine zt_L (L' := [(0, .ref (n0 + 0)), (1, .int a1), (2, .int a2)]) rfl ?_
  refine zt_aload_n hX 0 dX5_status_0 rfl rfl ?_
  refine zt_get_X5 hX (by decide) (zE_0 _ _) 0 (by decide) kw_234 rfl rfl dX5_status_1 ?_
  refine zt_iload_n hX 1 dX5_status_4 rfl rfl ?_
  refine zt_calliV hX hY (av := [.int a1]) (c_X4_has hf) dX5_status_5 rfl kw_254 kw_255 kw_256 kw_62 kw_257 ⟨rfl, rfl⟩ hy_X4_has ⟨by decide, by decide⟩ ⟨by decide, by decide⟩ (Nat.le_of_ble_eq_true rfl) (by decide) (zE_1 _ _) rfl rfl (fun r1 σ2 hf => ?_)
  refine zt_if_eq hX dX5_status_8 (tgt := 18) (by decide) (fun c3 => ?_) (fun c3 => ?_)
  · replace hf := z_pos hf c3
    refine zt_ldc hX dX5_status_18 kw_258 ?_
    exact zt_iret hX hY dX5_status_20 hf
  · replace hf := z_neg hf c3
    refine zt_iload_n hX 2 dX5_status_11 rfl rfl ?_
    refine zt_calliS hX hY (av := [.int a2]) (c_X5_isInterval hf) dX5_status_12 rfl kw_359 kw_360 kw_61 kw_361 ⟨rfl, rfl⟩ hy_X5_isInterval ⟨by decide, by decide⟩ ⟨by decide, by decide⟩ (Nat.le_of_ble_eq_true rfl) (fun r4 σ5 hf => ?_)
    refine zt_if_ne hX dX5_status_15 (tgt := 21) (by decide) (fun c6 => ?_) (fun c6 => ?_)
    · replace hf := z_neg hf c6
      refine zt_aload_n hX 0 dX5_status_21 rfl rfl ?_
      refine zt_get_X5 hX (by decide) (zE_0 _ _) 0 (by decide) kw_234 rfl rfl dX5_status_22 ?_
      refine zt_iload_n hX 1 dX5_status_25 rfl rfl ?_
      refine zt_iload_n hX 2 dX5_status_26 rfl rfl ?_
      refine zt_calliV hX hY (av := [.int a1, .int a2]) (c_X4_judge hf) dX5_status_27 rfl kw_371 kw_372 kw_373 kw_62 kw_374 ⟨rfl, rfl⟩ hy_X4_judge ⟨by decide, by decide⟩ ⟨by decide, by decide⟩ (Nat.le_of_ble_eq_true rfl) (by decide) (zE_1 _ _) rfl rfl (fun r7 σ8 hf => ?_)
      exact zt_iret hX hY dX5_status_30 hf
    · replace hf := z_pos hf c6
      refine zt_ldc hX dX5_status_18 kw_258 ?_
      exact zt_iret hX hY dX5_status_20 hf

theorem dX5_energy_0 : decode cX5_energy 0 = .ok (.aload_n 0, 1) := by decide +kernel
theorem dX5_energy_1 : decode cX5_energy 1 = .ok (.getfield 10, 3) := by decide +kernel
theorem dX5_energy_4 : decode cX5_energy 4 = .ok (.iload_n 1, 1) := by decide +kernel
theorem dX5_energy_5 : decode cX5_energy 5 = .ok (.invokevirtual 48, 3) := by decide +kernel
theorem dX5_energy_8 : decode cX5_energy 8 = .ok (.ifCond .eq 10, 3) := by decide +kernel
theorem dX5_energy_11 : decode cX5_energy 11 = .ok (.iload_n 2, 1) := by decide +kernel
theorem dX5_energy_12 : decode cX5_energy 12 = .ok (.invokestatic 115, 3) := by decide +kernel
theorem dX5_energy_15 : decode cX5_energy 15 = .ok (.ifCond .ne 6, 3) := by decide +kernel
theorem dX5_energy_18 : decode cX5_energy 18 = .ok (.ldc 52, 2) := by decide +kernel
theorem dX5_energy_20 : decode cX5_energy 20 = .ok (.ireturn, 1) := by decide +kernel
theorem dX5_energy_21 : decode cX5_energy 21 = .ok (.aload_n 0, 1) := by decide +kernel
theorem dX5_energy_22 : decode cX5_energy 22 = .ok (.getfield 26, 3) := by decide +kernel
theorem dX5_energy_25 : decode cX5_energy 25 = .ok (.aload_n 0, 1) := by decide +kernel
theorem dX5_energy_26 : decode cX5_energy 26 = .ok (.getfield 10, 3) := by decide +kernel
theorem dX5_energy_29 : decode cX5_energy 29 = .ok (.iload_n 1, 1) := by decide +kernel
theorem dX5_energy_30 : decode cX5_energy 30 = .ok (.invokevirtual 125, 3) := by decide +kernel
theorem dX5_energy_33 : decode cX5_energy 33 = .ok (.aload_n 0, 1) := by decide +kernel
theorem dX5_energy_34 : decode cX5_energy 34 = .ok (.getfield 26, 3) := by decide +kernel
theorem dX5_energy_37 : decode cX5_energy 37 = .ok (.getfield 129, 3) := by decide +kernel
theorem dX5_energy_40 : decode cX5_energy 40 = .ok (.iload_n 1, 1) := by decide +kernel
theorem dX5_energy_41 : decode cX5_energy 41 = .ok (.aaload, 1) := by decide +kernel
theorem dX5_energy_42 : decode cX5_energy 42 = .ok (.iload_n 2, 1) := by decide +kernel
theorem dX5_energy_43 : decode cX5_energy 43 = .ok (.iaload, 1) := by decide +kernel
theorem dX5_energy_44 : decode cX5_energy 44 = .ok (.ireturn, 1) := by decide +kernel
abbrev rm_X5_energy : Room := { frames := 4, cells := 0, slots := 0, locals := 96 }
theorem hy_X5_energy : yX5_energy.cls ≠ "java/lang/invoke/MethodHandle" ∧ yX5_energy.cls ≠ "java/lang/invoke/VarHandle" ∧ (parseMethodDescriptor yX5_energy.desc).map (fun d => d.parameters.length) = some 2 := by decide +kernel
def w_X5_energy (a1 : Int32) (a2 : Int32) (σ : z_S) (Q : Int32 → z_S → Prop) : Prop :=
  w_X4_has a1 σ (fun r1 σ2 => if r1 = 0 then (Q (-2000000001 : Int32) σ2) else (w_X5_isInterval a2 σ2 (fun r4 σ5 => if r4 = 0 then (Q (-2000000001 : Int32) σ5) else (w_X1_measure a1 σ5 (fun σ8 => vp_in a1 10 ∧ vp_in a2 12 ∧ Q (zg_i σ8 (31 + a1.toNatClampNeg) a2.toNatClampNeg) σ8)))))
set_option maxHeartbeats 4000000 in
set_option maxRecDepth 100000 in
theorem c_X5_energy {l : Launch} {D : va_G} {cI cJ cM cS : ClassId} {n0 : Nat} {a1 : Int32} {a2 : Int32} {σ : z_S} {Q : Int32 → z_S → Prop} (hf : w_X5_energy a1 a2 σ Q) : z_ci l D cI cJ cM cS n0 yX5_energy cX5_energy 3 .int rm_X5_energy 0 0 [.ref (n0 + 0), .int a1, .int a2] σ Q := by
  refine z_ofi (by decide +kernel) (Nat.le_of_ble_eq_true rfl) (fun p e s m args below meth c hX hY => ?_)
  unfold w_X5_energy at hf
  refine zt_L (L' := [(0, .ref (n0 + 0)), (1, .int a1), (2, .int a2)]) rfl ?_
  refine zt_aload_n hX 0 dX5_energy_0 rfl rfl ?_
  refine zt_get_X5 hX (by decide) (zE_0 _ _) 0 (by decide) kw_234 rfl rfl dX5_energy_1 ?_
  refine zt_iload_n hX 1 dX5_energy_4 rfl rfl ?_
  refine zt_calliV hX hY (av := [.int a1]) (c_X4_has hf) dX5_energy_5 rfl kw_254 kw_255 kw_256 kw_62 kw_257 ⟨rfl, rfl⟩ hy_X4_has ⟨by decide, by decide⟩ ⟨by decide, by decide⟩ (Nat.le_of_ble_eq_true rfl) (by decide) (zE_1 _ _) rfl rfl (fun r1 σ2 hf => ?_)
  refine zt_if_eq hX dX5_energy_8 (tgt := 18) (by decide) (fun c3 => ?_) (fun c3 => ?_)
  · replace hf := z_pos hf c3
    refine zt_ldc hX dX5_energy_18 kw_258 ?_
    exact zt_iret hX hY dX5_energy_20 hf
  · replace hf := z_neg hf c3
    refine zt_iload_n hX 2 dX5_energy_11 rfl rfl ?_
    refine zt_calliS hX hY (av := [.int a2]) (c_X5_isInterval hf) dX5_energy_12 rfl kw_359 kw_360 kw_61 kw_361 ⟨rfl, rfl⟩ hy_X5_isInterval ⟨by decide, by decide⟩ ⟨by decide, by decide⟩ (Nat.le_of_ble_eq_true rfl) (fun r4 σ5 hf => ?_)
    refine zt_if_ne hX dX5_energy_15 (tgt := 21) (by decide) (fun c6 => ?_) (fun c6 => ?_)
    · replace hf := z_neg hf c6
      refine zt_aload_n hX 0 dX5_energy_21 rfl rfl ?_
      refine zt_get_X5 hX (by decide) (zE_0 _ _) 2 (by decide) kw_236 rfl rfl dX5_energy_22 ?_
      refine zt_aload_n hX 0 dX5_energy_25 rfl rfl ?_
      refine zt_get_X5 hX (by decide) (zE_0 _ _) 0 (by decide) kw_234 rfl rfl dX5_energy_26 ?_
      refine zt_iload_n hX 1 dX5_energy_29 rfl rfl ?_
      refine zt_callvV hX hY (av := [.ref (n0 + 1), .int a1]) (c_X1_measure hf) dX5_energy_30 rfl kw_383 kw_384 kw_385 kw_64 kw_386 ⟨rfl, rfl⟩ hy_X1_measure ⟨by decide, by decide⟩ ⟨by decide, by decide⟩ (Nat.le_of_ble_eq_true rfl) (by decide) (zE_29 _ _) rfl rfl (fun σ8 hf => ?_)
      refine zt_aload_n hX 0 dX5_energy_33 rfl rfl ?_
      refine zt_get_X5 hX (by decide) (zE_0 _ _) 2 (by decide) kw_236 rfl rfl dX5_energy_34 ?_
      refine zt_get_X1 hX (by decide) (zE_29 _ _) 0 (by decide) kw_168 rfl rfl dX5_energy_37 ?_
      refine zt_iload_n hX 1 dX5_energy_40 rfl rfl ?_
      obtain ⟨h9, hf⟩ := hf
      refine zt_aaloadM hX dX5_energy_41 (by decide) rfl (k1 := 31) rfl h9 ?_
      refine zt_iload_n hX 2 dX5_energy_42 rfl rfl ?_
      obtain ⟨h10, hf⟩ := hf
      refine zt_iaload hX dX5_energy_43 (z_row31 (z_lt h9)) (z_sh31 (z_lt h9)) h10 ?_
      exact zt_iret hX hY dX5_energy_44 hf
    · replace hf := z_pos hf c6
      refine zt_ldc hX dX5_energy_18 kw_258 ?_
      exact zt_iret hX hY dX5_energy_20 hf

theorem dX5_quality_0 : decode cX5_quality 0 = .ok (.aload_n 0, 1) := by decide +kernel
theorem dX5_quality_1 : decode cX5_quality 1 = .ok (.getfield 10, 3) := by decide +kernel
theorem dX5_quality_4 : decode cX5_quality 4 = .ok (.iload_n 1, 1) := by decide +kernel
theorem dX5_quality_5 : decode cX5_quality 5 = .ok (.invokevirtual 48, 3) := by decide +kernel
theorem dX5_quality_8 : decode cX5_quality 8 = .ok (.ifCond .eq 10, 3) := by decide +kernel
theorem dX5_quality_11 : decode cX5_quality 11 = .ok (.iload_n 2, 1) := by decide +kernel
theorem dX5_quality_12 : decode cX5_quality 12 = .ok (.invokestatic 115, 3) := by decide +kernel
theorem dX5_quality_15 : decode cX5_quality 15 = .ok (.ifCond .ne 6, 3) := by decide +kernel
theorem dX5_quality_18 : decode cX5_quality 18 = .ok (.ldc 52, 2) := by decide +kernel
theorem dX5_quality_20 : decode cX5_quality 20 = .ok (.ireturn, 1) := by decide +kernel
theorem dX5_quality_21 : decode cX5_quality 21 = .ok (.aload_n 0, 1) := by decide +kernel
theorem dX5_quality_22 : decode cX5_quality 22 = .ok (.getfield 26, 3) := by decide +kernel
theorem dX5_quality_25 : decode cX5_quality 25 = .ok (.aload_n 0, 1) := by decide +kernel
theorem dX5_quality_26 : decode cX5_quality 26 = .ok (.getfield 10, 3) := by decide +kernel
theorem dX5_quality_29 : decode cX5_quality 29 = .ok (.iload_n 1, 1) := by decide +kernel
theorem dX5_quality_30 : decode cX5_quality 30 = .ok (.invokevirtual 125, 3) := by decide +kernel
theorem dX5_quality_33 : decode cX5_quality 33 = .ok (.aload_n 0, 1) := by decide +kernel
theorem dX5_quality_34 : decode cX5_quality 34 = .ok (.getfield 26, 3) := by decide +kernel
theorem dX5_quality_37 : decode cX5_quality 37 = .ok (.getfield 132, 3) := by decide +kernel
theorem dX5_quality_40 : decode cX5_quality 40 = .ok (.iload_n 1, 1) := by decide +kernel
theorem dX5_quality_41 : decode cX5_quality 41 = .ok (.aaload, 1) := by decide +kernel
theorem dX5_quality_42 : decode cX5_quality 42 = .ok (.iload_n 2, 1) := by decide +kernel
theorem dX5_quality_43 : decode cX5_quality 43 = .ok (.iaload, 1) := by decide +kernel
theorem dX5_quality_44 : decode cX5_quality 44 = .ok (.ireturn, 1) := by decide +kernel
abbrev rm_X5_quality : Room := { frames := 4, cells := 0, slots := 0, locals := 96 }
theorem hy_X5_quality : yX5_quality.cls ≠ "java/lang/invoke/MethodHandle" ∧ yX5_quality.cls ≠ "java/lang/invoke/VarHandle" ∧ (parseMethodDescriptor yX5_quality.desc).map (fun d => d.parameters.length) = some 2 := by decide +kernel
def w_X5_quality (a1 : Int32) (a2 : Int32) (σ : z_S) (Q : Int32 → z_S → Prop) : Prop :=
  w_X4_has a1 σ (fun r1 σ2 => if r1 = 0 then (Q (-2000000001 : Int32) σ2) else (w_X5_isInterval a2 σ2 (fun r4 σ5 => if r4 = 0 then (Q (-2000000001 : Int32) σ5) else (w_X1_measure a1 σ5 (fun σ8 => vp_in a1 10 ∧ vp_in a2 12 ∧ Q (zg_i σ8 (42 + a1.toNatClampNeg) a2.toNatClampNeg) σ8)))))
set_option maxHeartbeats 4000000 in
set_option maxRecDepth 100000 in
theorem c_X5_quality {l : Launch} {D : va_G} {cI cJ cM cS : ClassId} {n0 : Nat} {a1 : Int32} {a2 : Int32} {σ : z_S} {Q : Int32 → z_S → Prop} (hf : w_X5_quality a1 a2 σ Q) : z_ci l D cI cJ cM cS n0 yX5_quality cX5_quality 3 .int rm_X5_quality 0 0 [.ref (n0 + 0), .int a1, .int a2] σ Q := by
  refine z_ofi (by decide +kernel) (Nat.le_of_ble_eq_true rfl) (fun p e s m args below meth c hX hY => ?_)
  unfold w_X5_quality at hf
  refine zt_L (L' := [(0, .ref (n0 + 0)), (1, .int a1), (2, .int a2)]) rfl ?_
  refine zt_aload_n hX 0 dX5_quality_0 rfl rfl ?_
  refine zt_get_X5 hX (by decide) (zE_0 _ _) 0 (by decide) kw_234 rfl rfl dX5_quality_1 ?_
  refine zt_iload_n hX 1 dX5_quality_4 rfl rfl ?_
  refine zt_calliV hX hY (av := [.int a1]) (c_X4_has hf) dX5_quality_5 rfl kw_254 kw_255 kw_256 kw_62 kw_257 ⟨rfl, rfl⟩ hy_X4_has ⟨by decide, by decide⟩ ⟨by decide, by decide⟩ (Nat.le_of_ble_eq_true rfl) (by decide) (zE_1 _ _) rfl rfl (fun r1 σ2 hf => ?_)
  refine zt_if_eq hX dX5_quality_8 (tgt := 18) (by decide) (fun c3 => ?_) (fun c3 => ?_)
  · replace hf := z_pos hf c3
    refine zt_ldc hX dX5_quality_18 kw_258 ?_
    exact zt_iret hX hY dX5_quality_20 hf
  · replace hf := z_neg hf c3
    refine zt_iload_n hX 2 dX5_quality_11 rfl rfl ?_
    refine zt_calliS hX hY (av := [.int a2]) (c_X5_isInterval hf) dX5_quality_12 rfl kw_359 kw_360 kw_61 kw_361 ⟨rfl, rfl⟩ hy_X5_isInterval ⟨by decide, by decide⟩ ⟨by decide, by decide⟩ (Nat.le_of_ble_eq_true rfl) (fun r4 σ5 hf => ?_)
    refine zt_if_ne hX dX5_quality_15 (tgt := 21) (by decide) (fun c6 => ?_) (fun c6 => ?_)
    · replace hf := z_neg hf c6
      refine zt_aload_n hX 0 dX5_quality_21 rfl rfl ?_
      refine zt_get_X5 hX (by decide) (zE_0 _ _) 2 (by decide) kw_236 rfl rfl dX5_quality_22 ?_
      refine zt_aload_n hX 0 dX5_quality_25 rfl rfl ?_
      refine zt_get_X5 hX (by decide) (zE_0 _ _) 0 (by decide) kw_234 rfl rfl dX5_quality_26 ?_
      refine zt_iload_n hX 1 dX5_quality_29 rfl rfl ?_
      refine zt_callvV hX hY (av := [.ref (n0 + 1), .int a1]) (c_X1_measure hf) dX5_quality_30 rfl kw_383 kw_384 kw_385 kw_64 kw_386 ⟨rfl, rfl⟩ hy_X1_measure ⟨by decide, by decide⟩ ⟨by decide, by decide⟩ (Nat.le_of_ble_eq_true rfl) (by decide) (zE_29 _ _) rfl rfl (fun σ8 hf => ?_)
      refine zt_aload_n hX 0 dX5_quality_33 rfl rfl ?_
      refine zt_get_X5 hX (by decide) (zE_0 _ _) 2 (by decide) kw_236 rfl rfl dX5_quality_34 ?_
      refine zt_get_X1 hX (by decide) (zE_29 _ _) 1 (by decide) kw_170 rfl rfl dX5_quality_37 ?_
      refine zt_iload_n hX 1 dX5_quality_40 rfl rfl ?_
      obtain ⟨h9, hf⟩ := hf
      refine zt_aaloadM hX dX5_quality_41 (by decide) rfl (k1 := 42) rfl h9 ?_
      refine zt_iload_n hX 2 dX5_quality_42 rfl rfl ?_
      obtain ⟨h10, hf⟩ := hf
      refine zt_iaload hX dX5_quality_43 (z_row42 (z_lt h9)) (z_sh42 (z_lt h9)) h10 ?_
      exact zt_iret hX hY dX5_quality_44 hf
    · replace hf := z_pos hf c6
      refine zt_ldc hX dX5_quality_18 kw_258 ?_
      exact zt_iret hX hY dX5_quality_20 hf

theorem dX5_countNotValid_0 : decode cX5_countNotValid 0 = .ok (.iconst 0, 1) := by decide +kernel
theorem dX5_countNotValid_1 : decode cX5_countNotValid 1 = .ok (.istore_n 2, 1) := by decide +kernel
theorem dX5_countNotValid_2 : decode cX5_countNotValid 2 = .ok (.iconst 0, 1) := by decide +kernel
theorem dX5_countNotValid_3 : decode cX5_countNotValid 3 = .ok (.istore_n 3, 1) := by decide +kernel
theorem dX5_countNotValid_4 : decode cX5_countNotValid 4 = .ok (.iload_n 3, 1) := by decide +kernel
theorem dX5_countNotValid_5 : decode cX5_countNotValid 5 = .ok (.bipush 12, 2) := by decide +kernel
theorem dX5_countNotValid_7 : decode cX5_countNotValid 7 = .ok (.if_icmp .ge 24, 3) := by decide +kernel
theorem dX5_countNotValid_10 : decode cX5_countNotValid 10 = .ok (.aload_n 0, 1) := by decide +kernel
theorem dX5_countNotValid_11 : decode cX5_countNotValid 11 = .ok (.getfield 10, 3) := by decide +kernel
theorem dX5_countNotValid_14 : decode cX5_countNotValid 14 = .ok (.iload_n 1, 1) := by decide +kernel
theorem dX5_countNotValid_15 : decode cX5_countNotValid 15 = .ok (.iload_n 3, 1) := by decide +kernel
theorem dX5_countNotValid_16 : decode cX5_countNotValid 16 = .ok (.invokevirtual 122, 3) := by decide +kernel
theorem dX5_countNotValid_19 : decode cX5_countNotValid 19 = .ok (.ifCond .eq 6, 3) := by decide +kernel
theorem dX5_countNotValid_22 : decode cX5_countNotValid 22 = .ok (.iinc 2 1, 3) := by decide +kernel
theorem dX5_countNotValid_25 : decode cX5_countNotValid 25 = .ok (.iinc 3 1, 3) := by decide +kernel
theorem dX5_countNotValid_28 : decode cX5_countNotValid 28 = .ok (.goto (-24), 3) := by decide +kernel
theorem dX5_countNotValid_31 : decode cX5_countNotValid 31 = .ok (.iload_n 2, 1) := by decide +kernel
theorem dX5_countNotValid_32 : decode cX5_countNotValid 32 = .ok (.ireturn, 1) := by decide +kernel
abbrev rm_X5_countNotValid : Room := { frames := 3, cells := 0, slots := 0, locals := 71 }
theorem hy_X5_countNotValid : yX5_countNotValid.cls ≠ "java/lang/invoke/MethodHandle" ∧ yX5_countNotValid.cls ≠ "java/lang/invoke/VarHandle" ∧ (parseMethodDescriptor yX5_countNotValid.desc).map (fun d => d.parameters.length) = some 1 := by decide +kernel
def w_X5_countNotValid_25 (k4 : Int32 → Int32 → Int32 → z_S → Prop) (Q : Int32 → z_S → Prop) (x1 : Int32) (x2 : Int32) (x3 : Int32) (σ : z_S) : Prop :=
  ∀ y5 : Int32, y5 = (x3 + (1 : Int32)) → k4 x1 x2 y5 σ
def wb_X5_countNotValid_4  (Q : Int32 → z_S → Prop) (k4 : Int32 → Int32 → Int32 → z_S → Prop) (x1 : Int32) (x2 : Int32) (x3 : Int32) (σ : z_S) : Prop :=
  if (12 : Int32) ≤ x3 then (Q x2 σ) else (w_X4_judge x1 x3 σ (fun r2 σ3 => if r2 = 0 then (w_X5_countNotValid_25 k4 Q x1 x2 x3 σ3) else (∀ y6 : Int32, y6 = (x2 + (1 : Int32)) → w_X5_countNotValid_25 k4 Q x1 y6 x3 σ3)))
def w_X5_countNotValid_4  (Q : Int32 → z_S → Prop) : Nat → Int32 → Int32 → Int32 → z_S → Prop
  | 0 => fun _ _ _ _ => False
  | n + 1 => wb_X5_countNotValid_4  Q (w_X5_countNotValid_4  Q n)
def w_X5_countNotValid (a1 : Int32) (σ : z_S) (Q : Int32 → z_S → Prop) : Prop :=
  w_X5_countNotValid_4 Q 400 a1 (0 : Int32) (0 : Int32) σ
set_option maxHeartbeats 4000000 in
set_option maxRecDepth 100000 in
theorem t_X5_countNotValid_25 {l : Launch} {D : va_G} {cI cJ cM cS : ClassId} {n0 : Nat} {p : Program} {e : Env} {s : State} {m : MethodId} {args : Array Value} {below : List Frame} {meth : Method} {c : Code} {k4 : Int32 → Int32 → Int32 → z_S → Prop} {Q : Int32 → z_S → Prop} (hX : z_X D cI cJ cM cS p s m args c cX5_countNotValid 4 yX5_countNotValid.cls) (hY : z_Y s meth (some .int)) (hk4 : ∀ (x1 : Int32) (x2 : Int32) (x3 : Int32) (σ : z_S), k4 x1 x2 x3 σ → z_t D cI cJ cM cS n0 p l e rm_X5_countNotValid s m args below meth c 4 (MQ below (va_Qi Q (fun u t => z_Bq D cI cJ cM cS n0 u t) (z_Ab n0)) args s 0 0 (z_Ab n0)) 0 0 4 [(0, .ref (n0 + 0)), (1, .int x1), (2, .int x2), (3, .int x3)] [] σ) (x1 : Int32) (x2 : Int32) (x3 : Int32) (σ : z_S) (hf : w_X5_countNotValid_25 k4 Q x1 x2 x3 σ) : z_t D cI cJ cM cS n0 p l e rm_X5_countNotValid s m args below meth c 4 (MQ below (va_Qi Q (fun u t => z_Bq D cI cJ cM cS n0 u t) (z_Ab n0)) args s 0 0 (z_Ab n0)) 0 0 25 [(0, .ref (n0 + 0)), (1, .int x1), (2, .int x2), (3, .int x3)] [] σ := by
  unfold w_X5_countNotValid_25 at hf
  obtain ⟨y5, e5⟩ : ∃ y : Int32, y = (x3 + (1 : Int32)) := ⟨_, rfl⟩
  replace hf := hf y5 e5
  refine zt_iinc (L' := [(3, .int y5), (0, .ref (n0 + 0)), (1, .int x1), (2, .int x2)]) hX 3 dX5_countNotValid_25 rfl (v := y5) (by rw [e5]; rfl) (by decide) rfl ?_
  refine zt_goto hX dX5_countNotValid_28 (tgt := 4) (by decide) ?_
  exact zt_sub [1, 2, 3, 0] rfl (hk4 _ _ _ _ hf)
set_option maxHeartbeats 4000000 in
set_option maxRecDepth 100000 in
theorem t_X5_countNotValid_4 {l : Launch} {D : va_G} {cI cJ cM cS : ClassId} {n0 : Nat} {p : Program} {e : Env} {s : State} {m : MethodId} {args : Array Value} {below : List Frame} {meth : Method} {c : Code}  {Q : Int32 → z_S → Prop} (hX : z_X D cI cJ cM cS p s m args c cX5_countNotValid 4 yX5_countNotValid.cls) (hY : z_Y s meth (some .int))  : ∀ (n : Nat) (x1 : Int32) (x2 : Int32) (x3 : Int32) (σ : z_S), w_X5_countNotValid_4  Q n x1 x2 x3 σ → z_t D cI cJ cM cS n0 p l e rm_X5_countNotValid s m args below meth c 4 (MQ below (va_Qi Q (fun u t => z_Bq D cI cJ cM cS n0 u t) (z_Ab n0)) args s 0 0 (z_Ab n0)) 0 0 4 [(0, .ref (n0 + 0)), (1, .int x1), (2, .int x2), (3, .int x3)] [] σ := by
  intro n
  induction n with
  | zero => intro _ _ _ _ hf; exact hf.elim
  | succ n ih4 =>
    intro x1 x2 x3 σ hf
    have hf : wb_X5_countNotValid_4  Q (w_X5_countNotValid_4  Q n) x1 x2 x3 σ := hf
    unfold wb_X5_countNotValid_4 at hf
    refine zt_iload_n hX 3 dX5_countNotValid_4 rfl rfl ?_
    refine zt_bipush hX dX5_countNotValid_5 (v := (12 : Int32)) (by decide) ?_
    refine zt_icmp_ge hX dX5_countNotValid_7 (tgt := 31) (by decide) (fun c1 => ?_) (fun c1 => ?_)
    · replace hf := z_pos hf c1
      refine zt_iload_n hX 2 dX5_countNotValid_31 rfl rfl ?_
      exact zt_iret hX hY dX5_countNotValid_32 hf
    · replace hf := z_neg hf c1
      refine zt_aload_n hX 0 dX5_countNotValid_10 rfl rfl ?_
      refine zt_get_X5 hX (by decide) (zE_0 _ _) 0 (by decide) kw_234 rfl rfl dX5_countNotValid_11 ?_
      refine zt_iload_n hX 1 dX5_countNotValid_14 rfl rfl ?_
      refine zt_iload_n hX 3 dX5_countNotValid_15 rfl rfl ?_
      refine zt_calliV hX hY (av := [.int x1, .int x3]) (c_X4_judge hf) dX5_countNotValid_16 rfl kw_371 kw_372 kw_373 kw_62 kw_374 ⟨rfl, rfl⟩ hy_X4_judge ⟨by decide, by decide⟩ ⟨by decide, by decide⟩ (Nat.le_of_ble_eq_true rfl) (by decide) (zE_1 _ _) rfl rfl (fun r2 σ3 hf => ?_)
      refine zt_if_eq hX dX5_countNotValid_19 (tgt := 25) (by decide) (fun c4 => ?_) (fun c4 => ?_)
      · replace hf := z_pos hf c4
        exact zt_sub [0, 1, 2, 3] rfl (t_X5_countNotValid_25 hX hY ih4 _ _ _ _ hf)
      · replace hf := z_neg hf c4
        obtain ⟨y6, e6⟩ : ∃ y : Int32, y = (x2 + (1 : Int32)) := ⟨_, rfl⟩
        replace hf := hf y6 e6
        refine zt_iinc (L' := [(2, .int y6), (0, .ref (n0 + 0)), (1, .int x1), (3, .int x3)]) hX 2 dX5_countNotValid_22 rfl (v := y6) (by rw [e6]; rfl) (by decide) rfl ?_
        exact zt_sub [1, 2, 0, 3] rfl (t_X5_countNotValid_25 hX hY ih4 _ _ _ _ hf)
set_option maxHeartbeats 4000000 in
set_option maxRecDepth 100000 in
theorem c_X5_countNotValid {l : Launch} {D : va_G} {cI cJ cM cS : ClassId} {n0 : Nat} {a1 : Int32} {σ : z_S} {Q : Int32 → z_S → Prop} (hf : w_X5_countNotValid a1 σ Q) : z_ci l D cI cJ cM cS n0 yX5_countNotValid cX5_countNotValid 4 .int rm_X5_countNotValid 0 0 [.ref (n0 + 0), .int a1] σ Q := by
  refine z_ofi (by decide +kernel) (Nat.le_of_ble_eq_true rfl) (fun p e s m args below meth c hX hY => ?_)
  unfold w_X5_countNotValid at hf
  refine zt_L (L' := [(0, .ref (n0 + 0)), (1, .int a1)]) rfl ?_
  refine zt_iconst hX dX5_countNotValid_0 (v := (0 : Int32)) (by decide) ?_
  refine zt_istore_n (L' := [(2, .int (0 : Int32)), (0, .ref (n0 + 0)), (1, .int a1)]) hX dX5_countNotValid_1 rfl (by decide) rfl ?_
  refine zt_iconst hX dX5_countNotValid_2 (v := (0 : Int32)) (by decide) ?_
  refine zt_istore_n (L' := [(3, .int (0 : Int32)), (2, .int (0 : Int32)), (0, .ref (n0 + 0)), (1, .int a1)]) hX dX5_countNotValid_3 rfl (by decide) rfl ?_
  exact zt_sub [2, 3, 1, 0] rfl (t_X5_countNotValid_4 hX hY 400 _ _ _ _ hf)

theorem dX5_sumOf_0 : decode cX5_sumOf 0 = .ok (.iconst 0, 1) := by decide +kernel
theorem dX5_sumOf_1 : decode cX5_sumOf 1 = .ok (.istore_n 1, 1) := by decide +kernel
theorem dX5_sumOf_2 : decode cX5_sumOf 2 = .ok (.aload_n 0, 1) := by decide +kernel
theorem dX5_sumOf_3 : decode cX5_sumOf 3 = .ok (.astore_n 2, 1) := by decide +kernel
theorem dX5_sumOf_4 : decode cX5_sumOf 4 = .ok (.aload_n 2, 1) := by decide +kernel
theorem dX5_sumOf_5 : decode cX5_sumOf 5 = .ok (.arraylength, 1) := by decide +kernel
theorem dX5_sumOf_6 : decode cX5_sumOf 6 = .ok (.istore_n 3, 1) := by decide +kernel
theorem dX5_sumOf_7 : decode cX5_sumOf 7 = .ok (.iconst 0, 1) := by decide +kernel
theorem dX5_sumOf_8 : decode cX5_sumOf 8 = .ok (.istore 4, 2) := by decide +kernel
theorem dX5_sumOf_10 : decode cX5_sumOf 10 = .ok (.iload 4, 2) := by decide +kernel
theorem dX5_sumOf_12 : decode cX5_sumOf 12 = .ok (.iload_n 3, 1) := by decide +kernel
theorem dX5_sumOf_13 : decode cX5_sumOf 13 = .ok (.if_icmp .ge 20, 3) := by decide +kernel
theorem dX5_sumOf_16 : decode cX5_sumOf 16 = .ok (.aload_n 2, 1) := by decide +kernel
theorem dX5_sumOf_17 : decode cX5_sumOf 17 = .ok (.iload 4, 2) := by decide +kernel
theorem dX5_sumOf_19 : decode cX5_sumOf 19 = .ok (.iaload, 1) := by decide +kernel
theorem dX5_sumOf_20 : decode cX5_sumOf 20 = .ok (.istore 5, 2) := by decide +kernel
theorem dX5_sumOf_22 : decode cX5_sumOf 22 = .ok (.iload_n 1, 1) := by decide +kernel
theorem dX5_sumOf_23 : decode cX5_sumOf 23 = .ok (.iload 5, 2) := by decide +kernel
theorem dX5_sumOf_25 : decode cX5_sumOf 25 = .ok (.iadd, 1) := by decide +kernel
theorem dX5_sumOf_26 : decode cX5_sumOf 26 = .ok (.istore_n 1, 1) := by decide +kernel
theorem dX5_sumOf_27 : decode cX5_sumOf 27 = .ok (.iinc 4 1, 3) := by decide +kernel
theorem dX5_sumOf_30 : decode cX5_sumOf 30 = .ok (.goto (-20), 3) := by decide +kernel
theorem dX5_sumOf_33 : decode cX5_sumOf 33 = .ok (.iload_n 1, 1) := by decide +kernel
theorem dX5_sumOf_34 : decode cX5_sumOf 34 = .ok (.ireturn, 1) := by decide +kernel
abbrev rm_X5_sumOf : Room := { frames := 0, cells := 0, slots := 0, locals := 0 }
theorem hy_X5_sumOf : yX5_sumOf.cls ≠ "java/lang/invoke/MethodHandle" ∧ yX5_sumOf.cls ≠ "java/lang/invoke/VarHandle" ∧ (parseMethodDescriptor yX5_sumOf.desc).map (fun d => d.parameters.length) = some 1 := by decide +kernel
def wb_X5_sumOf_10  (Q : Int32 → z_S → Prop) (k10 : Int32 → Nat → Int32 → Int32 → z_S → Prop) (x1 : Int32) (p2 : Nat) (x3 : Int32) (x4 : Int32) (σ : z_S) : Prop :=
  if x3 ≤ x4 then (Q x1 σ) else ((p2 < 81 ∧ z_sh p2 = (10, 12)) ∧ vp_in x4 12 ∧ ∀ y5 : Int32, y5 = (zg_i σ p2 x4.toNatClampNeg) → ∀ y6 : Int32, y6 = (x1 + y5) → ∀ y7 : Int32, y7 = (x4 + (1 : Int32)) → k10 y6 p2 x3 y7 σ)
def w_X5_sumOf_10  (Q : Int32 → z_S → Prop) : Nat → Int32 → Nat → Int32 → Int32 → z_S → Prop
  | 0 => fun _ _ _ _ _ => False
  | n + 1 => wb_X5_sumOf_10  Q (w_X5_sumOf_10  Q n)
def w_X5_sumOf (a0 : Nat) (σ : z_S) (Q : Int32 → z_S → Prop) : Prop :=
  (a0 < 81 ∧ z_sh a0 = (10, 12)) ∧ w_X5_sumOf_10 Q 400 (0 : Int32) a0 (12 : Int32) (0 : Int32) σ
set_option maxHeartbeats 4000000 in
set_option maxRecDepth 100000 in
theorem t_X5_sumOf_10 {l : Launch} {D : va_G} {cI cJ cM cS : ClassId} {n0 : Nat} {p : Program} {e : Env} {s : State} {m : MethodId} {args : Array Value} {below : List Frame} {meth : Method} {c : Code}  {Q : Int32 → z_S → Prop} (hX : z_X D cI cJ cM cS p s m args c cX5_sumOf 6 yX5_sumOf.cls) (hY : z_Y s meth (some .int))  : ∀ (n : Nat) (x1 : Int32) (p2 : Nat) (x3 : Int32) (x4 : Int32) (σ : z_S), w_X5_sumOf_10  Q n x1 p2 x3 x4 σ → z_t D cI cJ cM cS n0 p l e rm_X5_sumOf s m args below meth c 6 (MQ below (va_Qi Q (fun u t => z_Bq D cI cJ cM cS n0 u t) (z_Ab n0)) args s 0 0 (z_Ab n0)) 0 0 10 [(1, .int x1), (2, .ref (n0 + p2)), (3, .int x3), (4, .int x4)] [] σ := by
  intro n
  induction n with
  | zero => intro _ _ _ _ _ hf; exact hf.elim
  | succ n ih10 =>
    intro x1 p2 x3 x4 σ hf
    have hf : wb_X5_sumOf_10  Q (w_X5_sumOf_10  Q n) x1 p2 x3 x4 σ := hf
    unfold wb_X5_sumOf_10 at hf
    refine zt_iload hX 3 dX5_sumOf_10 rfl ?_
    refine zt_iload_n hX 2 dX5_sumOf_12 rfl rfl ?_
    refine zt_icmp_ge hX dX5_sumOf_13 (tgt := 33) (by decide) (fun c2 => ?_) (fun c2 => ?_)
    · replace hf := z_pos hf c2
      refine zt_iload_n hX 0 dX5_sumOf_33 rfl rfl ?_
      exact zt_iret hX hY dX5_sumOf_34 hf
    · replace hf := z_neg hf c2
      refine zt_aload_n hX 1 dX5_sumOf_16 rfl rfl ?_
      refine zt_iload hX 3 dX5_sumOf_17 rfl ?_
      obtain ⟨h4, hf⟩ := hf
      obtain ⟨h3, hf⟩ := hf
      refine zt_iaload hX dX5_sumOf_19 h4.1 h4.2 h3 ?_
      refine zt_nmi (fun y5 e5 => ?_)
      replace hf := hf y5 e5
      refine zt_istore (L' := [(5, .int y5), (1, .int x1), (2, .ref (n0 + p2)), (3, .int x3), (4, .int x4)]) hX dX5_sumOf_20 (by decide) rfl ?_
      refine zt_iload_n hX 1 dX5_sumOf_22 rfl rfl ?_
      refine zt_iload hX 0 dX5_sumOf_23 rfl ?_
      refine zt_iadd hX dX5_sumOf_25 ?_
      refine zt_nmi (fun y6 e6 => ?_)
      replace hf := hf y6 e6
      refine zt_istore_n (L' := [(1, .int y6), (5, .int y5), (2, .ref (n0 + p2)), (3, .int x3), (4, .int x4)]) hX dX5_sumOf_26 rfl (by decide) rfl ?_
      obtain ⟨y7, e7⟩ : ∃ y : Int32, y = (x4 + (1 : Int32)) := ⟨_, rfl⟩
      replace hf := hf y7 e7
      refine zt_iinc (L' := [(4, .int y7), (1, .int y6), (5, .int y5), (2, .ref (n0 + p2)), (3, .int x3)]) hX 4 dX5_sumOf_27 rfl (v := y7) (by rw [e7]; rfl) (by decide) rfl ?_
      refine zt_goto hX dX5_sumOf_30 (tgt := 10) (by decide) ?_
      exact zt_sub [1, 3, 4, 0] rfl (ih10 _ _ _ _ _ hf)
set_option maxHeartbeats 4000000 in
set_option maxRecDepth 100000 in
theorem c_X5_sumOf {l : Launch} {D : va_G} {cI cJ cM cS : ClassId} {n0 : Nat} {a0 : Nat} {σ : z_S} {Q : Int32 → z_S → Prop} (hf : w_X5_sumOf a0 σ Q) : z_ci l D cI cJ cM cS n0 yX5_sumOf cX5_sumOf 6 .int rm_X5_sumOf 0 0 [.ref (n0 + a0)] σ Q := by
  refine z_ofi (by decide +kernel) (Nat.le_of_ble_eq_true rfl) (fun p e s m args below meth c hX hY => ?_)
  unfold w_X5_sumOf at hf
  refine zt_L (L' := [(0, .ref (n0 + a0))]) rfl ?_
  refine zt_iconst hX dX5_sumOf_0 (v := (0 : Int32)) (by decide) ?_
  refine zt_istore_n (L' := [(1, .int (0 : Int32)), (0, .ref (n0 + a0))]) hX dX5_sumOf_1 rfl (by decide) rfl ?_
  refine zt_aload_n hX 1 dX5_sumOf_2 rfl rfl ?_
  refine zt_astore_n (L' := [(2, .ref (n0 + a0)), (1, .int (0 : Int32)), (0, .ref (n0 + a0))]) hX dX5_sumOf_3 rfl (by decide) rfl ?_
  refine zt_aload_n hX 0 dX5_sumOf_4 rfl rfl ?_
  obtain ⟨h1, hf⟩ := hf
  refine zt_alenI hX dX5_sumOf_5 h1.1 h1.2 (v := (12 : Int32)) (by decide) (by decide) ?_
  refine zt_istore_n (L' := [(3, .int (12 : Int32)), (2, .ref (n0 + a0)), (1, .int (0 : Int32)), (0, .ref (n0 + a0))]) hX dX5_sumOf_6 rfl (by decide) rfl ?_
  refine zt_iconst hX dX5_sumOf_7 (v := (0 : Int32)) (by decide) ?_
  refine zt_istore (L' := [(4, .int (0 : Int32)), (3, .int (12 : Int32)), (2, .ref (n0 + a0)), (1, .int (0 : Int32)), (0, .ref (n0 + a0))]) hX dX5_sumOf_8 (by decide) rfl ?_
  exact zt_sub [3, 2, 1, 0] rfl (t_X5_sumOf_10 hX hY 400 _ _ _ _ _ hf)

theorem dX5_sumOfLosses_0 : decode cX5_sumOfLosses 0 = .ok (.aload_n 0, 1) := by decide +kernel
theorem dX5_sumOfLosses_1 : decode cX5_sumOfLosses 1 = .ok (.getfield 10, 3) := by decide +kernel
theorem dX5_sumOfLosses_4 : decode cX5_sumOfLosses 4 = .ok (.iload_n 1, 1) := by decide +kernel
theorem dX5_sumOfLosses_5 : decode cX5_sumOfLosses 5 = .ok (.invokevirtual 94, 3) := by decide +kernel
theorem dX5_sumOfLosses_8 : decode cX5_sumOfLosses 8 = .ok (.ifCond .ne 6, 3) := by decide +kernel
theorem dX5_sumOfLosses_11 : decode cX5_sumOfLosses 11 = .ok (.ldc 104, 2) := by decide +kernel
theorem dX5_sumOfLosses_13 : decode cX5_sumOfLosses 13 = .ok (.ireturn, 1) := by decide +kernel
theorem dX5_sumOfLosses_14 : decode cX5_sumOfLosses 14 = .ok (.aload_n 0, 1) := by decide +kernel
theorem dX5_sumOfLosses_15 : decode cX5_sumOfLosses 15 = .ok (.getfield 26, 3) := by decide +kernel
theorem dX5_sumOfLosses_18 : decode cX5_sumOfLosses 18 = .ok (.aload_n 0, 1) := by decide +kernel
theorem dX5_sumOfLosses_19 : decode cX5_sumOfLosses 19 = .ok (.getfield 10, 3) := by decide +kernel
theorem dX5_sumOfLosses_22 : decode cX5_sumOfLosses 22 = .ok (.iload_n 1, 1) := by decide +kernel
theorem dX5_sumOfLosses_23 : decode cX5_sumOfLosses 23 = .ok (.invokevirtual 152, 3) := by decide +kernel
theorem dX5_sumOfLosses_26 : decode cX5_sumOfLosses 26 = .ok (.iconst 0, 1) := by decide +kernel
theorem dX5_sumOfLosses_27 : decode cX5_sumOfLosses 27 = .ok (.istore_n 2, 1) := by decide +kernel
theorem dX5_sumOfLosses_28 : decode cX5_sumOfLosses 28 = .ok (.iconst 0, 1) := by decide +kernel
theorem dX5_sumOfLosses_29 : decode cX5_sumOfLosses 29 = .ok (.istore_n 3, 1) := by decide +kernel
theorem dX5_sumOfLosses_30 : decode cX5_sumOfLosses 30 = .ok (.iload_n 3, 1) := by decide +kernel
theorem dX5_sumOfLosses_31 : decode cX5_sumOfLosses 31 = .ok (.bipush 12, 2) := by decide +kernel
theorem dX5_sumOfLosses_33 : decode cX5_sumOfLosses 33 = .ok (.if_icmp .ge 25, 3) := by decide +kernel
theorem dX5_sumOfLosses_36 : decode cX5_sumOfLosses 36 = .ok (.iload_n 2, 1) := by decide +kernel
theorem dX5_sumOfLosses_37 : decode cX5_sumOfLosses 37 = .ok (.aload_n 0, 1) := by decide +kernel
theorem dX5_sumOfLosses_38 : decode cX5_sumOfLosses 38 = .ok (.getfield 26, 3) := by decide +kernel
theorem dX5_sumOfLosses_41 : decode cX5_sumOfLosses 41 = .ok (.aload_n 0, 1) := by decide +kernel
theorem dX5_sumOfLosses_42 : decode cX5_sumOfLosses 42 = .ok (.getfield 10, 3) := by decide +kernel
theorem dX5_sumOfLosses_45 : decode cX5_sumOfLosses 45 = .ok (.iload_n 1, 1) := by decide +kernel
theorem dX5_sumOfLosses_46 : decode cX5_sumOfLosses 46 = .ok (.iload_n 3, 1) := by decide +kernel
theorem dX5_sumOfLosses_47 : decode cX5_sumOfLosses 47 = .ok (.invokevirtual 155, 3) := by decide +kernel
theorem dX5_sumOfLosses_50 : decode cX5_sumOfLosses 50 = .ok (.iadd, 1) := by decide +kernel
theorem dX5_sumOfLosses_51 : decode cX5_sumOfLosses 51 = .ok (.istore_n 2, 1) := by decide +kernel
theorem dX5_sumOfLosses_52 : decode cX5_sumOfLosses 52 = .ok (.iinc 3 1, 3) := by decide +kernel
theorem dX5_sumOfLosses_55 : decode cX5_sumOfLosses 55 = .ok (.goto (-25), 3) := by decide +kernel
theorem dX5_sumOfLosses_58 : decode cX5_sumOfLosses 58 = .ok (.iload_n 2, 1) := by decide +kernel
theorem dX5_sumOfLosses_59 : decode cX5_sumOfLosses 59 = .ok (.ireturn, 1) := by decide +kernel
abbrev rm_X5_sumOfLosses : Room := { frames := 5, cells := 0, slots := 0, locals := 119 }
theorem hy_X5_sumOfLosses : yX5_sumOfLosses.cls ≠ "java/lang/invoke/MethodHandle" ∧ yX5_sumOfLosses.cls ≠ "java/lang/invoke/VarHandle" ∧ (parseMethodDescriptor yX5_sumOfLosses.desc).map (fun d => d.parameters.length) = some 1 := by decide +kernel
def wb_X5_sumOfLosses_30  (Q : Int32 → z_S → Prop) (k30 : Int32 → Int32 → Int32 → z_S → Prop) (x1 : Int32) (x2 : Int32) (x3 : Int32) (σ : z_S) : Prop :=
  if (12 : Int32) ≤ x3 then (Q x2 σ) else (w_X1_lossIn x1 x3 σ (fun r7 σ8 => ∀ y9 : Int32, y9 = (x2 + r7) → ∀ y10 : Int32, y10 = (x3 + (1 : Int32)) → k30 x1 y9 y10 σ8))
def w_X5_sumOfLosses_30  (Q : Int32 → z_S → Prop) : Nat → Int32 → Int32 → Int32 → z_S → Prop
  | 0 => fun _ _ _ _ => False
  | n + 1 => wb_X5_sumOfLosses_30  Q (w_X5_sumOfLosses_30  Q n)
def w_X5_sumOfLosses (a1 : Int32) (σ : z_S) (Q : Int32 → z_S → Prop) : Prop :=
  w_X4_countChildren a1 σ (fun r1 σ2 => if r1 = 0 then (Q (-2000000000 : Int32) σ2) else (w_X1_measureFamily a1 σ2 (fun σ5 => w_X5_sumOfLosses_30 Q 400 a1 (0 : Int32) (0 : Int32) σ5)))
set_option maxHeartbeats 4000000 in
set_option maxRecDepth 100000 in
theorem t_X5_sumOfLosses_30 {l : Launch} {D : va_G} {cI cJ cM cS : ClassId} {n0 : Nat} {p : Program} {e : Env} {s : State} {m : MethodId} {args : Array Value} {below : List Frame} {meth : Method} {c : Code}  {Q : Int32 → z_S → Prop} (hX : z_X D cI cJ cM cS p s m args c cX5_sumOfLosses 4 yX5_sumOfLosses.cls) (hY : z_Y s meth (some .int))  : ∀ (n : Nat) (x1 : Int32) (x2 : Int32) (x3 : Int32) (σ : z_S), w_X5_sumOfLosses_30  Q n x1 x2 x3 σ → z_t D cI cJ cM cS n0 p l e rm_X5_sumOfLosses s m args below meth c 4 (MQ below (va_Qi Q (fun u t => z_Bq D cI cJ cM cS n0 u t) (z_Ab n0)) args s 0 0 (z_Ab n0)) 0 0 30 [(0, .ref (n0 + 0)), (1, .int x1), (2, .int x2), (3, .int x3)] [] σ := by
  intro n
  induction n with
  | zero => intro _ _ _ _ hf; exact hf.elim
  | succ n ih30 =>
    intro x1 x2 x3 σ hf
    have hf : wb_X5_sumOfLosses_30  Q (w_X5_sumOfLosses_30  Q n) x1 x2 x3 σ := hf
    unfold wb_X5_sumOfLosses_30 at hf
    refine zt_iload_n hX 3 dX5_sumOfLosses_30 rfl rfl ?_
    refine zt_bipush hX dX5_sumOfLosses_31 (v := (12 : Int32)) (by decide) ?_
    refine zt_icmp_ge hX dX5_sumOfLosses_33 (tgt := 58) (by decide) (fun c6 => ?_) (fun c6 => ?_)
    · replace hf := z_pos hf c6
      refine zt_iload_n hX 2 dX5_sumOfLosses_58 rfl rfl ?_
      exact zt_iret hX hY dX5_sumOfLosses_59 hf
    · replace hf := z_neg hf c6
      refine zt_iload_n hX 2 dX5_sumOfLosses_36 rfl rfl ?_
      refine zt_aload_n hX 0 dX5_sumOfLosses_37 rfl rfl ?_
      refine zt_get_X5 hX (by decide) (zE_0 _ _) 2 (by decide) kw_236 rfl rfl dX5_sumOfLosses_38 ?_
      refine zt_aload_n hX 0 dX5_sumOfLosses_41 rfl rfl ?_
      refine zt_get_X5 hX (by decide) (zE_0 _ _) 0 (by decide) kw_234 rfl rfl dX5_sumOfLosses_42 ?_
      refine zt_iload_n hX 1 dX5_sumOfLosses_45 rfl rfl ?_
      refine zt_iload_n hX 3 dX5_sumOfLosses_46 rfl rfl ?_
      refine zt_calliV hX hY (av := [.ref (n0 + 1), .int x1, .int x3]) (c_X1_lossIn hf) dX5_sumOfLosses_47 rfl kw_430 kw_431 kw_432 kw_64 kw_433 ⟨rfl, rfl⟩ hy_X1_lossIn ⟨by decide, by decide⟩ ⟨by decide, by decide⟩ (Nat.le_of_ble_eq_true rfl) (by decide) (zE_29 _ _) rfl rfl (fun r7 σ8 hf => ?_)
      refine zt_iadd hX dX5_sumOfLosses_50 ?_
      refine zt_nmi (fun y9 e9 => ?_)
      replace hf := hf y9 e9
      refine zt_istore_n (L' := [(2, .int y9), (0, .ref (n0 + 0)), (1, .int x1), (3, .int x3)]) hX dX5_sumOfLosses_51 rfl (by decide) rfl ?_
      obtain ⟨y10, e10⟩ : ∃ y : Int32, y = (x3 + (1 : Int32)) := ⟨_, rfl⟩
      replace hf := hf y10 e10
      refine zt_iinc (L' := [(3, .int y10), (2, .int y9), (0, .ref (n0 + 0)), (1, .int x1)]) hX 3 dX5_sumOfLosses_52 rfl (v := y10) (by rw [e10]; rfl) (by decide) rfl ?_
      refine zt_goto hX dX5_sumOfLosses_55 (tgt := 30) (by decide) ?_
      exact zt_sub [2, 3, 1, 0] rfl (ih30 _ _ _ _ hf)
set_option maxHeartbeats 4000000 in
set_option maxRecDepth 100000 in
theorem c_X5_sumOfLosses {l : Launch} {D : va_G} {cI cJ cM cS : ClassId} {n0 : Nat} {a1 : Int32} {σ : z_S} {Q : Int32 → z_S → Prop} (hf : w_X5_sumOfLosses a1 σ Q) : z_ci l D cI cJ cM cS n0 yX5_sumOfLosses cX5_sumOfLosses 4 .int rm_X5_sumOfLosses 0 0 [.ref (n0 + 0), .int a1] σ Q := by
  refine z_ofi (by decide +kernel) (Nat.le_of_ble_eq_true rfl) (fun p e s m args below meth c hX hY => ?_)
  unfold w_X5_sumOfLosses at hf
  refine zt_L (L' := [(0, .ref (n0 + 0)), (1, .int a1)]) rfl ?_
  refine zt_aload_n hX 0 dX5_sumOfLosses_0 rfl rfl ?_
  refine zt_get_X5 hX (by decide) (zE_0 _ _) 0 (by decide) kw_234 rfl rfl dX5_sumOfLosses_1 ?_
  refine zt_iload_n hX 1 dX5_sumOfLosses_4 rfl rfl ?_
  refine zt_calliV hX hY (av := [.int a1]) (c_X4_countChildren hf) dX5_sumOfLosses_5 rfl kw_312 kw_313 kw_314 kw_62 kw_315 ⟨rfl, rfl⟩ hy_X4_countChildren ⟨by decide, by decide⟩ ⟨by decide, by decide⟩ (Nat.le_of_ble_eq_true rfl) (by decide) (zE_1 _ _) rfl rfl (fun r1 σ2 hf => ?_)
  refine zt_if_ne hX dX5_sumOfLosses_8 (tgt := 14) (by decide) (fun c3 => ?_) (fun c3 => ?_)
  · replace hf := z_neg hf c3
    refine zt_aload_n hX 0 dX5_sumOfLosses_14 rfl rfl ?_
    refine zt_get_X5 hX (by decide) (zE_0 _ _) 2 (by decide) kw_236 rfl rfl dX5_sumOfLosses_15 ?_
    refine zt_aload_n hX 0 dX5_sumOfLosses_18 rfl rfl ?_
    refine zt_get_X5 hX (by decide) (zE_0 _ _) 0 (by decide) kw_234 rfl rfl dX5_sumOfLosses_19 ?_
    refine zt_iload_n hX 1 dX5_sumOfLosses_22 rfl rfl ?_
    refine zt_callvV hX hY (av := [.ref (n0 + 1), .int a1]) (c_X1_measureFamily hf) dX5_sumOfLosses_23 rfl kw_425 kw_426 kw_427 kw_64 kw_428 ⟨rfl, rfl⟩ hy_X1_measureFamily ⟨by decide, by decide⟩ ⟨by decide, by decide⟩ (Nat.le_of_ble_eq_true rfl) (by decide) (zE_29 _ _) rfl rfl (fun σ5 hf => ?_)
    refine zt_iconst hX dX5_sumOfLosses_26 (v := (0 : Int32)) (by decide) ?_
    refine zt_istore_n (L' := [(2, .int (0 : Int32)), (0, .ref (n0 + 0)), (1, .int a1)]) hX dX5_sumOfLosses_27 rfl (by decide) rfl ?_
    refine zt_iconst hX dX5_sumOfLosses_28 (v := (0 : Int32)) (by decide) ?_
    refine zt_istore_n (L' := [(3, .int (0 : Int32)), (2, .int (0 : Int32)), (0, .ref (n0 + 0)), (1, .int a1)]) hX dX5_sumOfLosses_29 rfl (by decide) rfl ?_
    exact zt_sub [2, 3, 1, 0] rfl (t_X5_sumOfLosses_30 hX hY 400 _ _ _ _ hf)
  · replace hf := z_pos hf c3
    refine zt_ldc hX dX5_sumOfLosses_11 kw_329 ?_
    exact zt_iret hX hY dX5_sumOfLosses_13 hf

theorem dX5_loss_0 : decode cX5_loss 0 = .ok (.aload_n 0, 1) := by decide +kernel
theorem dX5_loss_1 : decode cX5_loss 1 = .ok (.getfield 10, 3) := by decide +kernel
theorem dX5_loss_4 : decode cX5_loss 4 = .ok (.iload_n 1, 1) := by decide +kernel
theorem dX5_loss_5 : decode cX5_loss 5 = .ok (.invokevirtual 48, 3) := by decide +kernel
theorem dX5_loss_8 : decode cX5_loss 8 = .ok (.ifCond .eq 10, 3) := by decide +kernel
theorem dX5_loss_11 : decode cX5_loss 11 = .ok (.iload_n 2, 1) := by decide +kernel
theorem dX5_loss_12 : decode cX5_loss 12 = .ok (.invokestatic 115, 3) := by decide +kernel
theorem dX5_loss_15 : decode cX5_loss 15 = .ok (.ifCond .ne 6, 3) := by decide +kernel
theorem dX5_loss_18 : decode cX5_loss 18 = .ok (.ldc 52, 2) := by decide +kernel
theorem dX5_loss_20 : decode cX5_loss 20 = .ok (.ireturn, 1) := by decide +kernel
theorem dX5_loss_21 : decode cX5_loss 21 = .ok (.aload_n 0, 1) := by decide +kernel
theorem dX5_loss_22 : decode cX5_loss 22 = .ok (.getfield 10, 3) := by decide +kernel
theorem dX5_loss_25 : decode cX5_loss 25 = .ok (.iload_n 1, 1) := by decide +kernel
theorem dX5_loss_26 : decode cX5_loss 26 = .ok (.invokevirtual 94, 3) := by decide +kernel
theorem dX5_loss_29 : decode cX5_loss 29 = .ok (.ifCond .ne 6, 3) := by decide +kernel
theorem dX5_loss_32 : decode cX5_loss 32 = .ok (.ldc 104, 2) := by decide +kernel
theorem dX5_loss_34 : decode cX5_loss 34 = .ok (.ireturn, 1) := by decide +kernel
theorem dX5_loss_35 : decode cX5_loss 35 = .ok (.aload_n 0, 1) := by decide +kernel
theorem dX5_loss_36 : decode cX5_loss 36 = .ok (.getfield 26, 3) := by decide +kernel
theorem dX5_loss_39 : decode cX5_loss 39 = .ok (.aload_n 0, 1) := by decide +kernel
theorem dX5_loss_40 : decode cX5_loss 40 = .ok (.getfield 10, 3) := by decide +kernel
theorem dX5_loss_43 : decode cX5_loss 43 = .ok (.iload_n 1, 1) := by decide +kernel
theorem dX5_loss_44 : decode cX5_loss 44 = .ok (.invokevirtual 152, 3) := by decide +kernel
theorem dX5_loss_47 : decode cX5_loss 47 = .ok (.aload_n 0, 1) := by decide +kernel
theorem dX5_loss_48 : decode cX5_loss 48 = .ok (.getfield 26, 3) := by decide +kernel
theorem dX5_loss_51 : decode cX5_loss 51 = .ok (.aload_n 0, 1) := by decide +kernel
theorem dX5_loss_52 : decode cX5_loss 52 = .ok (.getfield 10, 3) := by decide +kernel
theorem dX5_loss_55 : decode cX5_loss 55 = .ok (.iload_n 1, 1) := by decide +kernel
theorem dX5_loss_56 : decode cX5_loss 56 = .ok (.iload_n 2, 1) := by decide +kernel
theorem dX5_loss_57 : decode cX5_loss 57 = .ok (.invokevirtual 155, 3) := by decide +kernel
theorem dX5_loss_60 : decode cX5_loss 60 = .ok (.ireturn, 1) := by decide +kernel
abbrev rm_X5_loss : Room := { frames := 5, cells := 0, slots := 0, locals := 119 }
theorem hy_X5_loss : yX5_loss.cls ≠ "java/lang/invoke/MethodHandle" ∧ yX5_loss.cls ≠ "java/lang/invoke/VarHandle" ∧ (parseMethodDescriptor yX5_loss.desc).map (fun d => d.parameters.length) = some 2 := by decide +kernel
def w_X5_loss (a1 : Int32) (a2 : Int32) (σ : z_S) (Q : Int32 → z_S → Prop) : Prop :=
  w_X4_has a1 σ (fun r1 σ2 => if r1 = 0 then (Q (-2000000001 : Int32) σ2) else (w_X5_isInterval a2 σ2 (fun r4 σ5 => if r4 = 0 then (Q (-2000000001 : Int32) σ5) else (w_X4_countChildren a1 σ5 (fun r7 σ8 => if r7 = 0 then (Q (-2000000000 : Int32) σ8) else (w_X1_measureFamily a1 σ8 (fun σ11 => w_X1_lossIn a1 a2 σ11 (fun r12 σ13 => Q r12 σ13))))))))
set_option maxHeartbeats 4000000 in
set_option maxRecDepth 100000 in
theorem c_X5_loss {l : Launch} {D : va_G} {cI cJ cM cS : ClassId} {n0 : Nat} {a1 : Int32} {a2 : Int32} {σ : z_S} {Q : Int32 → z_S → Prop} (hf : w_X5_loss a1 a2 σ Q) : z_ci l D cI cJ cM cS n0 yX5_loss cX5_loss 3 .int rm_X5_loss 0 0 [.ref (n0 + 0), .int a1, .int a2] σ Q := by
  refine z_ofi (by decide +kernel) (Nat.le_of_ble_eq_true rfl) (fun p e s m args below meth c hX hY => ?_)
  unfold w_X5_loss at hf
  refine zt_L (L' := [(0, .ref (n0 + 0)), (1, .int a1), (2, .int a2)]) rfl ?_
  refine zt_aload_n hX 0 dX5_loss_0 rfl rfl ?_
  refine zt_get_X5 hX (by decide) (zE_0 _ _) 0 (by decide) kw_234 rfl rfl dX5_loss_1 ?_
  refine zt_iload_n hX 1 dX5_loss_4 rfl rfl ?_
  refine zt_calliV hX hY (av := [.int a1]) (c_X4_has hf) dX5_loss_5 rfl kw_254 kw_255 kw_256 kw_62 kw_257 ⟨rfl, rfl⟩ hy_X4_has ⟨by decide, by decide⟩ ⟨by decide, by decide⟩ (Nat.le_of_ble_eq_true rfl) (by decide) (zE_1 _ _) rfl rfl (fun r1 σ2 hf => ?_)
  refine zt_if_eq hX dX5_loss_8 (tgt := 18) (by decide) (fun c3 => ?_) (fun c3 => ?_)
  · replace hf := z_pos hf c3
    refine zt_ldc hX dX5_loss_18 kw_258 ?_
    exact zt_iret hX hY dX5_loss_20 hf
  · replace hf := z_neg hf c3
    refine zt_iload_n hX 2 dX5_loss_11 rfl rfl ?_
    refine zt_calliS hX hY (av := [.int a2]) (c_X5_isInterval hf) dX5_loss_12 rfl kw_359 kw_360 kw_61 kw_361 ⟨rfl, rfl⟩ hy_X5_isInterval ⟨by decide, by decide⟩ ⟨by decide, by decide⟩ (Nat.le_of_ble_eq_true rfl) (fun r4 σ5 hf => ?_)
    refine zt_if_ne hX dX5_loss_15 (tgt := 21) (by decide) (fun c6 => ?_) (fun c6 => ?_)
    · replace hf := z_neg hf c6
      refine zt_aload_n hX 0 dX5_loss_21 rfl rfl ?_
      refine zt_get_X5 hX (by decide) (zE_0 _ _) 0 (by decide) kw_234 rfl rfl dX5_loss_22 ?_
      refine zt_iload_n hX 1 dX5_loss_25 rfl rfl ?_
      refine zt_calliV hX hY (av := [.int a1]) (c_X4_countChildren hf) dX5_loss_26 rfl kw_312 kw_313 kw_314 kw_62 kw_315 ⟨rfl, rfl⟩ hy_X4_countChildren ⟨by decide, by decide⟩ ⟨by decide, by decide⟩ (Nat.le_of_ble_eq_true rfl) (by decide) (zE_1 _ _) rfl rfl (fun r7 σ8 hf => ?_)
      refine zt_if_ne hX dX5_loss_29 (tgt := 35) (by decide) (fun c9 => ?_) (fun c9 => ?_)
      · replace hf := z_neg hf c9
        refine zt_aload_n hX 0 dX5_loss_35 rfl rfl ?_
        refine zt_get_X5 hX (by decide) (zE_0 _ _) 2 (by decide) kw_236 rfl rfl dX5_loss_36 ?_
        refine zt_aload_n hX 0 dX5_loss_39 rfl rfl ?_
        refine zt_get_X5 hX (by decide) (zE_0 _ _) 0 (by decide) kw_234 rfl rfl dX5_loss_40 ?_
        refine zt_iload_n hX 1 dX5_loss_43 rfl rfl ?_
        refine zt_callvV hX hY (av := [.ref (n0 + 1), .int a1]) (c_X1_measureFamily hf) dX5_loss_44 rfl kw_425 kw_426 kw_427 kw_64 kw_428 ⟨rfl, rfl⟩ hy_X1_measureFamily ⟨by decide, by decide⟩ ⟨by decide, by decide⟩ (Nat.le_of_ble_eq_true rfl) (by decide) (zE_29 _ _) rfl rfl (fun σ11 hf => ?_)
        refine zt_aload_n hX 0 dX5_loss_47 rfl rfl ?_
        refine zt_get_X5 hX (by decide) (zE_0 _ _) 2 (by decide) kw_236 rfl rfl dX5_loss_48 ?_
        refine zt_aload_n hX 0 dX5_loss_51 rfl rfl ?_
        refine zt_get_X5 hX (by decide) (zE_0 _ _) 0 (by decide) kw_234 rfl rfl dX5_loss_52 ?_
        refine zt_iload_n hX 1 dX5_loss_55 rfl rfl ?_
        refine zt_iload_n hX 2 dX5_loss_56 rfl rfl ?_
        refine zt_calliV hX hY (av := [.ref (n0 + 1), .int a1, .int a2]) (c_X1_lossIn hf) dX5_loss_57 rfl kw_430 kw_431 kw_432 kw_64 kw_433 ⟨rfl, rfl⟩ hy_X1_lossIn ⟨by decide, by decide⟩ ⟨by decide, by decide⟩ (Nat.le_of_ble_eq_true rfl) (by decide) (zE_29 _ _) rfl rfl (fun r12 σ13 hf => ?_)
        exact zt_iret hX hY dX5_loss_60 hf
      · replace hf := z_pos hf c9
        refine zt_ldc hX dX5_loss_32 kw_329 ?_
        exact zt_iret hX hY dX5_loss_34 hf
    · replace hf := z_pos hf c6
      refine zt_ldc hX dX5_loss_18 kw_258 ?_
      exact zt_iret hX hY dX5_loss_20 hf

theorem dX5_balance_0 : decode cX5_balance 0 = .ok (.aload_n 0, 1) := by decide +kernel
theorem dX5_balance_1 : decode cX5_balance 1 = .ok (.getfield 10, 3) := by decide +kernel
theorem dX5_balance_4 : decode cX5_balance 4 = .ok (.iload_n 1, 1) := by decide +kernel
theorem dX5_balance_5 : decode cX5_balance 5 = .ok (.invokevirtual 48, 3) := by decide +kernel
theorem dX5_balance_8 : decode cX5_balance 8 = .ok (.ifCond .eq 10, 3) := by decide +kernel
theorem dX5_balance_11 : decode cX5_balance 11 = .ok (.iload_n 2, 1) := by decide +kernel
theorem dX5_balance_12 : decode cX5_balance 12 = .ok (.invokestatic 115, 3) := by decide +kernel
theorem dX5_balance_15 : decode cX5_balance 15 = .ok (.ifCond .ne 6, 3) := by decide +kernel
theorem dX5_balance_18 : decode cX5_balance 18 = .ok (.ldc 52, 2) := by decide +kernel
theorem dX5_balance_20 : decode cX5_balance 20 = .ok (.ireturn, 1) := by decide +kernel
theorem dX5_balance_21 : decode cX5_balance 21 = .ok (.aload_n 0, 1) := by decide +kernel
theorem dX5_balance_22 : decode cX5_balance 22 = .ok (.getfield 10, 3) := by decide +kernel
theorem dX5_balance_25 : decode cX5_balance 25 = .ok (.iload_n 1, 1) := by decide +kernel
theorem dX5_balance_26 : decode cX5_balance 26 = .ok (.invokevirtual 94, 3) := by decide +kernel
theorem dX5_balance_29 : decode cX5_balance 29 = .ok (.ifCond .ne 6, 3) := by decide +kernel
theorem dX5_balance_32 : decode cX5_balance 32 = .ok (.ldc 104, 2) := by decide +kernel
theorem dX5_balance_34 : decode cX5_balance 34 = .ok (.ireturn, 1) := by decide +kernel
theorem dX5_balance_35 : decode cX5_balance 35 = .ok (.aload_n 0, 1) := by decide +kernel
theorem dX5_balance_36 : decode cX5_balance 36 = .ok (.getfield 26, 3) := by decide +kernel
theorem dX5_balance_39 : decode cX5_balance 39 = .ok (.aload_n 0, 1) := by decide +kernel
theorem dX5_balance_40 : decode cX5_balance 40 = .ok (.getfield 10, 3) := by decide +kernel
theorem dX5_balance_43 : decode cX5_balance 43 = .ok (.iload_n 1, 1) := by decide +kernel
theorem dX5_balance_44 : decode cX5_balance 44 = .ok (.invokevirtual 152, 3) := by decide +kernel
theorem dX5_balance_47 : decode cX5_balance 47 = .ok (.aload_n 0, 1) := by decide +kernel
theorem dX5_balance_48 : decode cX5_balance 48 = .ok (.getfield 26, 3) := by decide +kernel
theorem dX5_balance_51 : decode cX5_balance 51 = .ok (.aload_n 0, 1) := by decide +kernel
theorem dX5_balance_52 : decode cX5_balance 52 = .ok (.getfield 10, 3) := by decide +kernel
theorem dX5_balance_55 : decode cX5_balance 55 = .ok (.iload_n 1, 1) := by decide +kernel
theorem dX5_balance_56 : decode cX5_balance 56 = .ok (.iload_n 2, 1) := by decide +kernel
theorem dX5_balance_57 : decode cX5_balance 57 = .ok (.invokevirtual 159, 3) := by decide +kernel
theorem dX5_balance_60 : decode cX5_balance 60 = .ok (.ireturn, 1) := by decide +kernel
abbrev rm_X5_balance : Room := { frames := 5, cells := 0, slots := 0, locals := 119 }
theorem hy_X5_balance : yX5_balance.cls ≠ "java/lang/invoke/MethodHandle" ∧ yX5_balance.cls ≠ "java/lang/invoke/VarHandle" ∧ (parseMethodDescriptor yX5_balance.desc).map (fun d => d.parameters.length) = some 2 := by decide +kernel
def w_X5_balance (a1 : Int32) (a2 : Int32) (σ : z_S) (Q : Int32 → z_S → Prop) : Prop :=
  w_X4_has a1 σ (fun r1 σ2 => if r1 = 0 then (Q (-2000000001 : Int32) σ2) else (w_X5_isInterval a2 σ2 (fun r4 σ5 => if r4 = 0 then (Q (-2000000001 : Int32) σ5) else (w_X4_countChildren a1 σ5 (fun r7 σ8 => if r7 = 0 then (Q (-2000000000 : Int32) σ8) else (w_X1_measureFamily a1 σ8 (fun σ11 => w_X1_balanceIn a1 a2 σ11 (fun r12 σ13 => Q r12 σ13))))))))
set_option maxHeartbeats 4000000 in
set_option maxRecDepth 100000 in
theorem c_X5_balance {l : Launch} {D : va_G} {cI cJ cM cS : ClassId} {n0 : Nat} {a1 : Int32} {a2 : Int32} {σ : z_S} {Q : Int32 → z_S → Prop} (hf : w_X5_balance a1 a2 σ Q) : z_ci l D cI cJ cM cS n0 yX5_balance cX5_balance 3 .int rm_X5_balance 0 0 [.ref (n0 + 0), .int a1, .int a2] σ Q := by
  refine z_ofi (by decide +kernel) (Nat.le_of_ble_eq_true rfl) (fun p e s m args below meth c hX hY => ?_)
  unfold w_X5_balance at hf
  refine zt_L (L' := [(0, .ref (n0 + 0)), (1, .int a1), (2, .int a2)]) rfl ?_
  refine zt_aload_n hX 0 dX5_balance_0 rfl rfl ?_
  refine zt_get_X5 hX (by decide) (zE_0 _ _) 0 (by decide) kw_234 rfl rfl dX5_balance_1 ?_
  refine zt_iload_n hX 1 dX5_balance_4 rfl rfl ?_
  refine zt_calliV hX hY (av := [.int a1]) (c_X4_has hf) dX5_balance_5 rfl kw_254 kw_255 kw_256 kw_62 kw_257 ⟨rfl, rfl⟩ hy_X4_has ⟨by decide, by decide⟩ ⟨by decide, by decide⟩ (Nat.le_of_ble_eq_true rfl) (by decide) (zE_1 _ _) rfl rfl (fun r1 σ2 hf => ?_)
  refine zt_if_eq hX dX5_balance_8 (tgt := 18) (by decide) (fun c3 => ?_) (fun c3 => ?_)
  · replace hf := z_pos hf c3
    refine zt_ldc hX dX5_balance_18 kw_258 ?_
    exact zt_iret hX hY dX5_balance_20 hf
  · replace hf := z_neg hf c3
    refine zt_iload_n hX 2 dX5_balance_11 rfl rfl ?_
    refine zt_calliS hX hY (av := [.int a2]) (c_X5_isInterval hf) dX5_balance_12 rfl kw_359 kw_360 kw_61 kw_361 ⟨rfl, rfl⟩ hy_X5_isInterval ⟨by decide, by decide⟩ ⟨by decide, by decide⟩ (Nat.le_of_ble_eq_true rfl) (fun r4 σ5 hf => ?_)
    refine zt_if_ne hX dX5_balance_15 (tgt := 21) (by decide) (fun c6 => ?_) (fun c6 => ?_)
    · replace hf := z_neg hf c6
      refine zt_aload_n hX 0 dX5_balance_21 rfl rfl ?_
      refine zt_get_X5 hX (by decide) (zE_0 _ _) 0 (by decide) kw_234 rfl rfl dX5_balance_22 ?_
      refine zt_iload_n hX 1 dX5_balance_25 rfl rfl ?_
      refine zt_calliV hX hY (av := [.int a1]) (c_X4_countChildren hf) dX5_balance_26 rfl kw_312 kw_313 kw_314 kw_62 kw_315 ⟨rfl, rfl⟩ hy_X4_countChildren ⟨by decide, by decide⟩ ⟨by decide, by decide⟩ (Nat.le_of_ble_eq_true rfl) (by decide) (zE_1 _ _) rfl rfl (fun r7 σ8 hf => ?_)
      refine zt_if_ne hX dX5_balance_29 (tgt := 35) (by decide) (fun c9 => ?_) (fun c9 => ?_)
      · replace hf := z_neg hf c9
        refine zt_aload_n hX 0 dX5_balance_35 rfl rfl ?_
        refine zt_get_X5 hX (by decide) (zE_0 _ _) 2 (by decide) kw_236 rfl rfl dX5_balance_36 ?_
        refine zt_aload_n hX 0 dX5_balance_39 rfl rfl ?_
        refine zt_get_X5 hX (by decide) (zE_0 _ _) 0 (by decide) kw_234 rfl rfl dX5_balance_40 ?_
        refine zt_iload_n hX 1 dX5_balance_43 rfl rfl ?_
        refine zt_callvV hX hY (av := [.ref (n0 + 1), .int a1]) (c_X1_measureFamily hf) dX5_balance_44 rfl kw_425 kw_426 kw_427 kw_64 kw_428 ⟨rfl, rfl⟩ hy_X1_measureFamily ⟨by decide, by decide⟩ ⟨by decide, by decide⟩ (Nat.le_of_ble_eq_true rfl) (by decide) (zE_29 _ _) rfl rfl (fun σ11 hf => ?_)
        refine zt_aload_n hX 0 dX5_balance_47 rfl rfl ?_
        refine zt_get_X5 hX (by decide) (zE_0 _ _) 2 (by decide) kw_236 rfl rfl dX5_balance_48 ?_
        refine zt_aload_n hX 0 dX5_balance_51 rfl rfl ?_
        refine zt_get_X5 hX (by decide) (zE_0 _ _) 0 (by decide) kw_234 rfl rfl dX5_balance_52 ?_
        refine zt_iload_n hX 1 dX5_balance_55 rfl rfl ?_
        refine zt_iload_n hX 2 dX5_balance_56 rfl rfl ?_
        refine zt_calliV hX hY (av := [.ref (n0 + 1), .int a1, .int a2]) (c_X1_balanceIn hf) dX5_balance_57 rfl kw_478 kw_479 kw_480 kw_64 kw_481 ⟨rfl, rfl⟩ hy_X1_balanceIn ⟨by decide, by decide⟩ ⟨by decide, by decide⟩ (Nat.le_of_ble_eq_true rfl) (by decide) (zE_29 _ _) rfl rfl (fun r12 σ13 hf => ?_)
        exact zt_iret hX hY dX5_balance_60 hf
      · replace hf := z_pos hf c9
        refine zt_ldc hX dX5_balance_32 kw_329 ?_
        exact zt_iret hX hY dX5_balance_34 hf
    · replace hf := z_pos hf c6
      refine zt_ldc hX dX5_balance_18 kw_258 ?_
      exact zt_iret hX hY dX5_balance_20 hf

theorem dX5_nextFault_0 : decode cX5_nextFault 0 = .ok (.aload_n 0, 1) := by decide +kernel
theorem dX5_nextFault_1 : decode cX5_nextFault 1 = .ok (.getfield 10, 3) := by decide +kernel
theorem dX5_nextFault_4 : decode cX5_nextFault 4 = .ok (.iload_n 1, 1) := by decide +kernel
theorem dX5_nextFault_5 : decode cX5_nextFault 5 = .ok (.invokevirtual 48, 3) := by decide +kernel
theorem dX5_nextFault_8 : decode cX5_nextFault 8 = .ok (.ifCond .ne 6, 3) := by decide +kernel
theorem dX5_nextFault_11 : decode cX5_nextFault 11 = .ok (.ldc 52, 2) := by decide +kernel
theorem dX5_nextFault_13 : decode cX5_nextFault 13 = .ok (.ireturn, 1) := by decide +kernel
theorem dX5_nextFault_14 : decode cX5_nextFault 14 = .ok (.iload_n 2, 1) := by decide +kernel
theorem dX5_nextFault_15 : decode cX5_nextFault 15 = .ok (.iconst (-1), 1) := by decide +kernel
theorem dX5_nextFault_16 : decode cX5_nextFault 16 = .ok (.bipush 11, 2) := by decide +kernel
theorem dX5_nextFault_18 : decode cX5_nextFault 18 = .ok (.invokestatic 62, 3) := by decide +kernel
theorem dX5_nextFault_21 : decode cX5_nextFault 21 = .ok (.ifCond .ne 6, 3) := by decide +kernel
theorem dX5_nextFault_24 : decode cX5_nextFault 24 = .ok (.ldc 66, 2) := by decide +kernel
theorem dX5_nextFault_26 : decode cX5_nextFault 26 = .ok (.ireturn, 1) := by decide +kernel
theorem dX5_nextFault_27 : decode cX5_nextFault 27 = .ok (.aload_n 0, 1) := by decide +kernel
theorem dX5_nextFault_28 : decode cX5_nextFault 28 = .ok (.getfield 10, 3) := by decide +kernel
theorem dX5_nextFault_31 : decode cX5_nextFault 31 = .ok (.iload_n 1, 1) := by decide +kernel
theorem dX5_nextFault_32 : decode cX5_nextFault 32 = .ok (.invokevirtual 94, 3) := by decide +kernel
theorem dX5_nextFault_35 : decode cX5_nextFault 35 = .ok (.ifCond .ne 6, 3) := by decide +kernel
theorem dX5_nextFault_38 : decode cX5_nextFault 38 = .ok (.ldc 104, 2) := by decide +kernel
theorem dX5_nextFault_40 : decode cX5_nextFault 40 = .ok (.ireturn, 1) := by decide +kernel
theorem dX5_nextFault_41 : decode cX5_nextFault 41 = .ok (.aload_n 0, 1) := by decide +kernel
theorem dX5_nextFault_42 : decode cX5_nextFault 42 = .ok (.getfield 26, 3) := by decide +kernel
theorem dX5_nextFault_45 : decode cX5_nextFault 45 = .ok (.aload_n 0, 1) := by decide +kernel
theorem dX5_nextFault_46 : decode cX5_nextFault 46 = .ok (.getfield 10, 3) := by decide +kernel
theorem dX5_nextFault_49 : decode cX5_nextFault 49 = .ok (.iload_n 1, 1) := by decide +kernel
theorem dX5_nextFault_50 : decode cX5_nextFault 50 = .ok (.invokevirtual 152, 3) := by decide +kernel
theorem dX5_nextFault_53 : decode cX5_nextFault 53 = .ok (.iload_n 2, 1) := by decide +kernel
theorem dX5_nextFault_54 : decode cX5_nextFault 54 = .ok (.iconst 1, 1) := by decide +kernel
theorem dX5_nextFault_55 : decode cX5_nextFault 55 = .ok (.iadd, 1) := by decide +kernel
theorem dX5_nextFault_56 : decode cX5_nextFault 56 = .ok (.istore_n 3, 1) := by decide +kernel
theorem dX5_nextFault_57 : decode cX5_nextFault 57 = .ok (.iload_n 3, 1) := by decide +kernel
theorem dX5_nextFault_58 : decode cX5_nextFault 58 = .ok (.bipush 12, 2) := by decide +kernel
theorem dX5_nextFault_60 : decode cX5_nextFault 60 = .ok (.if_icmp .ge 27, 3) := by decide +kernel
theorem dX5_nextFault_63 : decode cX5_nextFault 63 = .ok (.aload_n 0, 1) := by decide +kernel
theorem dX5_nextFault_64 : decode cX5_nextFault 64 = .ok (.getfield 26, 3) := by decide +kernel
theorem dX5_nextFault_67 : decode cX5_nextFault 67 = .ok (.aload_n 0, 1) := by decide +kernel
theorem dX5_nextFault_68 : decode cX5_nextFault 68 = .ok (.getfield 10, 3) := by decide +kernel
theorem dX5_nextFault_71 : decode cX5_nextFault 71 = .ok (.iload_n 1, 1) := by decide +kernel
theorem dX5_nextFault_72 : decode cX5_nextFault 72 = .ok (.iload_n 3, 1) := by decide +kernel
theorem dX5_nextFault_73 : decode cX5_nextFault 73 = .ok (.invokevirtual 159, 3) := by decide +kernel
theorem dX5_nextFault_76 : decode cX5_nextFault 76 = .ok (.ifCond .eq 5, 3) := by decide +kernel
theorem dX5_nextFault_79 : decode cX5_nextFault 79 = .ok (.iload_n 3, 1) := by decide +kernel
theorem dX5_nextFault_80 : decode cX5_nextFault 80 = .ok (.ireturn, 1) := by decide +kernel
theorem dX5_nextFault_81 : decode cX5_nextFault 81 = .ok (.iinc 3 1, 3) := by decide +kernel
theorem dX5_nextFault_84 : decode cX5_nextFault 84 = .ok (.goto (-27), 3) := by decide +kernel
theorem dX5_nextFault_87 : decode cX5_nextFault 87 = .ok (.ldc 104, 2) := by decide +kernel
theorem dX5_nextFault_89 : decode cX5_nextFault 89 = .ok (.ireturn, 1) := by decide +kernel
abbrev rm_X5_nextFault : Room := { frames := 5, cells := 0, slots := 0, locals := 119 }
theorem hy_X5_nextFault : yX5_nextFault.cls ≠ "java/lang/invoke/MethodHandle" ∧ yX5_nextFault.cls ≠ "java/lang/invoke/VarHandle" ∧ (parseMethodDescriptor yX5_nextFault.desc).map (fun d => d.parameters.length) = some 2 := by decide +kernel
def wb_X5_nextFault_57  (Q : Int32 → z_S → Prop) (k57 : Int32 → Int32 → z_S → Prop) (x1 : Int32) (x3 : Int32) (σ : z_S) : Prop :=
  if (12 : Int32) ≤ x3 then (Q (-2000000000 : Int32) σ) else (w_X1_balanceIn x1 x3 σ (fun r14 σ15 => if r14 = 0 then (∀ y17 : Int32, y17 = (x3 + (1 : Int32)) → k57 x1 y17 σ15) else (Q x3 σ15)))
def w_X5_nextFault_57  (Q : Int32 → z_S → Prop) : Nat → Int32 → Int32 → z_S → Prop
  | 0 => fun _ _ _ => False
  | n + 1 => wb_X5_nextFault_57  Q (w_X5_nextFault_57  Q n)
def w_X5_nextFault (a1 : Int32) (a2 : Int32) (σ : z_S) (Q : Int32 → z_S → Prop) : Prop :=
  w_X4_has a1 σ (fun r1 σ2 => if r1 = 0 then (Q (-2000000001 : Int32) σ2) else (w_X5_within a2 (-1 : Int32) (11 : Int32) σ2 (fun r4 σ5 => if r4 = 0 then (Q (-2000000002 : Int32) σ5) else (w_X4_countChildren a1 σ5 (fun r7 σ8 => if r7 = 0 then (Q (-2000000000 : Int32) σ8) else (w_X1_measureFamily a1 σ8 (fun σ11 => ∀ y12 : Int32, y12 = (a2 + (1 : Int32)) → w_X5_nextFault_57 Q 400 a1 y12 σ11)))))))
set_option maxHeartbeats 4000000 in
set_option maxRecDepth 100000 in
theorem t_X5_nextFault_57 {l : Launch} {D : va_G} {cI cJ cM cS : ClassId} {n0 : Nat} {p : Program} {e : Env} {s : State} {m : MethodId} {args : Array Value} {below : List Frame} {meth : Method} {c : Code}  {Q : Int32 → z_S → Prop} (hX : z_X D cI cJ cM cS p s m args c cX5_nextFault 4 yX5_nextFault.cls) (hY : z_Y s meth (some .int))  : ∀ (n : Nat) (x1 : Int32) (x3 : Int32) (σ : z_S), w_X5_nextFault_57  Q n x1 x3 σ → z_t D cI cJ cM cS n0 p l e rm_X5_nextFault s m args below meth c 4 (MQ below (va_Qi Q (fun u t => z_Bq D cI cJ cM cS n0 u t) (z_Ab n0)) args s 0 0 (z_Ab n0)) 0 0 57 [(0, .ref (n0 + 0)), (1, .int x1), (3, .int x3)] [] σ := by
  intro n
  induction n with
  | zero => intro _ _ _ hf; exact hf.elim
  | succ n ih57 =>
    intro x1 x3 σ hf
    have hf : wb_X5_nextFault_57  Q (w_X5_nextFault_57  Q n) x1 x3 σ := hf
    unfold wb_X5_nextFault_57 at hf
    refine zt_iload_n hX 2 dX5_nextFault_57 rfl rfl ?_
    refine zt_bipush hX dX5_nextFault_58 (v := (12 : Int32)) (by decide) ?_
    refine zt_icmp_ge hX dX5_nextFault_60 (tgt := 87) (by decide) (fun c13 => ?_) (fun c13 => ?_)
    · replace hf := z_pos hf c13
      refine zt_ldc hX dX5_nextFault_87 kw_329 ?_
      exact zt_iret hX hY dX5_nextFault_89 hf
    · replace hf := z_neg hf c13
      refine zt_aload_n hX 0 dX5_nextFault_63 rfl rfl ?_
      refine zt_get_X5 hX (by decide) (zE_0 _ _) 2 (by decide) kw_236 rfl rfl dX5_nextFault_64 ?_
      refine zt_aload_n hX 0 dX5_nextFault_67 rfl rfl ?_
      refine zt_get_X5 hX (by decide) (zE_0 _ _) 0 (by decide) kw_234 rfl rfl dX5_nextFault_68 ?_
      refine zt_iload_n hX 1 dX5_nextFault_71 rfl rfl ?_
      refine zt_iload_n hX 2 dX5_nextFault_72 rfl rfl ?_
      refine zt_calliV hX hY (av := [.ref (n0 + 1), .int x1, .int x3]) (c_X1_balanceIn hf) dX5_nextFault_73 rfl kw_478 kw_479 kw_480 kw_64 kw_481 ⟨rfl, rfl⟩ hy_X1_balanceIn ⟨by decide, by decide⟩ ⟨by decide, by decide⟩ (Nat.le_of_ble_eq_true rfl) (by decide) (zE_29 _ _) rfl rfl (fun r14 σ15 hf => ?_)
      refine zt_if_eq hX dX5_nextFault_76 (tgt := 81) (by decide) (fun c16 => ?_) (fun c16 => ?_)
      · replace hf := z_pos hf c16
        obtain ⟨y17, e17⟩ : ∃ y : Int32, y = (x3 + (1 : Int32)) := ⟨_, rfl⟩
        replace hf := hf y17 e17
        refine zt_iinc (L' := [(3, .int y17), (0, .ref (n0 + 0)), (1, .int x1)]) hX 2 dX5_nextFault_81 rfl (v := y17) (by rw [e17]; rfl) (by decide) rfl ?_
        refine zt_goto hX dX5_nextFault_84 (tgt := 57) (by decide) ?_
        exact zt_sub [1, 2, 0] rfl (ih57 _ _ _ hf)
      · replace hf := z_neg hf c16
        refine zt_iload_n hX 2 dX5_nextFault_79 rfl rfl ?_
        exact zt_iret hX hY dX5_nextFault_80 hf
set_option maxHeartbeats 4000000 in
set_option maxRecDepth 100000 in
theorem c_X5_nextFault {l : Launch} {D : va_G} {cI cJ cM cS : ClassId} {n0 : Nat} {a1 : Int32} {a2 : Int32} {σ : z_S} {Q : Int32 → z_S → Prop} (hf : w_X5_nextFault a1 a2 σ Q) : z_ci l D cI cJ cM cS n0 yX5_nextFault cX5_nextFault 4 .int rm_X5_nextFault 0 0 [.ref (n0 + 0), .int a1, .int a2] σ Q := by
  refine z_ofi (by decide +kernel) (Nat.le_of_ble_eq_true rfl) (fun p e s m args below meth c hX hY => ?_)
  unfold w_X5_nextFault at hf
  refine zt_L (L' := [(0, .ref (n0 + 0)), (1, .int a1), (2, .int a2)]) rfl ?_
  refine zt_aload_n hX 0 dX5_nextFault_0 rfl rfl ?_
  refine zt_get_X5 hX (by decide) (zE_0 _ _) 0 (by decide) kw_234 rfl rfl dX5_nextFault_1 ?_
  refine zt_iload_n hX 1 dX5_nextFault_4 rfl rfl ?_
  refine zt_calliV hX hY (av := [.int a1]) (c_X4_has hf) dX5_nextFault_5 rfl kw_254 kw_255 kw_256 kw_62 kw_257 ⟨rfl, rfl⟩ hy_X4_has ⟨by decide, by decide⟩ ⟨by decide, by decide⟩ (Nat.le_of_ble_eq_true rfl) (by decide) (zE_1 _ _) rfl rfl (fun r1 σ2 hf => ?_)
  refine zt_if_ne hX dX5_nextFault_8 (tgt := 14) (by decide) (fun c3 => ?_) (fun c3 => ?_)
  · replace hf := z_neg hf c3
    refine zt_iload_n hX 2 dX5_nextFault_14 rfl rfl ?_
    refine zt_iconst hX dX5_nextFault_15 (v := (-1 : Int32)) (by decide) ?_
    refine zt_bipush hX dX5_nextFault_16 (v := (11 : Int32)) (by decide) ?_
    refine zt_calliS hX hY (av := [.int a2, .int (-1 : Int32), .int (11 : Int32)]) (c_X5_within hf) dX5_nextFault_18 rfl kw_290 kw_291 kw_61 kw_292 ⟨rfl, rfl⟩ hy_X5_within ⟨by decide, by decide⟩ ⟨by decide, by decide⟩ (Nat.le_of_ble_eq_true rfl) (fun r4 σ5 hf => ?_)
    refine zt_if_ne hX dX5_nextFault_21 (tgt := 27) (by decide) (fun c6 => ?_) (fun c6 => ?_)
    · replace hf := z_neg hf c6
      refine zt_aload_n hX 0 dX5_nextFault_27 rfl rfl ?_
      refine zt_get_X5 hX (by decide) (zE_0 _ _) 0 (by decide) kw_234 rfl rfl dX5_nextFault_28 ?_
      refine zt_iload_n hX 1 dX5_nextFault_31 rfl rfl ?_
      refine zt_calliV hX hY (av := [.int a1]) (c_X4_countChildren hf) dX5_nextFault_32 rfl kw_312 kw_313 kw_314 kw_62 kw_315 ⟨rfl, rfl⟩ hy_X4_countChildren ⟨by decide, by decide⟩ ⟨by decide, by decide⟩ (Nat.le_of_ble_eq_true rfl) (by decide) (zE_1 _ _) rfl rfl (fun r7 σ8 hf => ?_)
      refine zt_if_ne hX dX5_nextFault_35 (tgt := 41) (by decide) (fun c9 => ?_) (fun c9 => ?_)
      · replace hf := z_neg hf c9
        refine zt_aload_n hX 0 dX5_nextFault_41 rfl rfl ?_
        refine zt_get_X5 hX (by decide) (zE_0 _ _) 2 (by decide) kw_236 rfl rfl dX5_nextFault_42 ?_
        refine zt_aload_n hX 0 dX5_nextFault_45 rfl rfl ?_
        refine zt_get_X5 hX (by decide) (zE_0 _ _) 0 (by decide) kw_234 rfl rfl dX5_nextFault_46 ?_
        refine zt_iload_n hX 1 dX5_nextFault_49 rfl rfl ?_
        refine zt_callvV hX hY (av := [.ref (n0 + 1), .int a1]) (c_X1_measureFamily hf) dX5_nextFault_50 rfl kw_425 kw_426 kw_427 kw_64 kw_428 ⟨rfl, rfl⟩ hy_X1_measureFamily ⟨by decide, by decide⟩ ⟨by decide, by decide⟩ (Nat.le_of_ble_eq_true rfl) (by decide) (zE_29 _ _) rfl rfl (fun σ11 hf => ?_)
        refine zt_iload_n hX 2 dX5_nextFault_53 rfl rfl ?_
        refine zt_iconst hX dX5_nextFault_54 (v := (1 : Int32)) (by decide) ?_
        refine zt_iadd hX dX5_nextFault_55 ?_
        refine zt_nmi (fun y12 e12 => ?_)
        replace hf := hf y12 e12
        refine zt_istore_n (L' := [(3, .int y12), (0, .ref (n0 + 0)), (1, .int a1), (2, .int a2)]) hX dX5_nextFault_56 rfl (by decide) rfl ?_
        exact zt_sub [1, 2, 0] rfl (t_X5_nextFault_57 hX hY 400 _ _ _ hf)
      · replace hf := z_pos hf c9
        refine zt_ldc hX dX5_nextFault_38 kw_329 ?_
        exact zt_iret hX hY dX5_nextFault_40 hf
    · replace hf := z_pos hf c6
      refine zt_ldc hX dX5_nextFault_24 kw_293 ?_
      exact zt_iret hX hY dX5_nextFault_26 hf
  · replace hf := z_pos hf c3
    refine zt_ldc hX dX5_nextFault_11 kw_258 ?_
    exact zt_iret hX hY dX5_nextFault_13 hf

theorem dX5_bitsOf_0 : decode cX5_bitsOf 0 = .ok (.fload_n 0, 1) := by decide +kernel
theorem dX5_bitsOf_1 : decode cX5_bitsOf 1 = .ok (.fconst 0, 1) := by decide +kernel
theorem dX5_bitsOf_2 : decode cX5_bitsOf 2 = .ok (.fcmp .l, 1) := by decide +kernel
theorem dX5_bitsOf_3 : decode cX5_bitsOf 3 = .ok (.ifCond .ne 5, 3) := by decide +kernel
theorem dX5_bitsOf_6 : decode cX5_bitsOf 6 = .ok (.iconst 0, 1) := by decide +kernel
theorem dX5_bitsOf_7 : decode cX5_bitsOf 7 = .ok (.ireturn, 1) := by decide +kernel
theorem dX5_bitsOf_8 : decode cX5_bitsOf 8 = .ok (.fload_n 0, 1) := by decide +kernel
theorem dX5_bitsOf_9 : decode cX5_bitsOf 9 = .ok (.fconst 0, 1) := by decide +kernel
theorem dX5_bitsOf_10 : decode cX5_bitsOf 10 = .ok (.fcmp .g, 1) := by decide +kernel
theorem dX5_bitsOf_11 : decode cX5_bitsOf 11 = .ok (.ifCond .ge 8, 3) := by decide +kernel
theorem dX5_bitsOf_14 : decode cX5_bitsOf 14 = .ok (.fload_n 0, 1) := by decide +kernel
theorem dX5_bitsOf_15 : decode cX5_bitsOf 15 = .ok (.fneg, 1) := by decide +kernel
theorem dX5_bitsOf_16 : decode cX5_bitsOf 16 = .ok (.goto 4, 3) := by decide +kernel
theorem dX5_bitsOf_19 : decode cX5_bitsOf 19 = .ok (.fload_n 0, 1) := by decide +kernel
theorem dX5_bitsOf_20 : decode cX5_bitsOf 20 = .ok (.fstore_n 1, 1) := by decide +kernel
theorem dX5_bitsOf_21 : decode cX5_bitsOf 21 = .ok (.bipush 127, 2) := by decide +kernel
theorem dX5_bitsOf_23 : decode cX5_bitsOf 23 = .ok (.istore_n 2, 1) := by decide +kernel
theorem dX5_bitsOf_24 : decode cX5_bitsOf 24 = .ok (.iconst 0, 1) := by decide +kernel
theorem dX5_bitsOf_25 : decode cX5_bitsOf 25 = .ok (.istore_n 3, 1) := by decide +kernel
theorem dX5_bitsOf_26 : decode cX5_bitsOf 26 = .ok (.iload_n 3, 1) := by decide +kernel
theorem dX5_bitsOf_27 : decode cX5_bitsOf 27 = .ok (.bipush 126, 2) := by decide +kernel
theorem dX5_bitsOf_29 : decode cX5_bitsOf 29 = .ok (.if_icmp .ge 23, 3) := by decide +kernel
theorem dX5_bitsOf_32 : decode cX5_bitsOf 32 = .ok (.fload_n 1, 1) := by decide +kernel
theorem dX5_bitsOf_33 : decode cX5_bitsOf 33 = .ok (.fconst 2, 1) := by decide +kernel
theorem dX5_bitsOf_34 : decode cX5_bitsOf 34 = .ok (.fcmp .l, 1) := by decide +kernel
theorem dX5_bitsOf_35 : decode cX5_bitsOf 35 = .ok (.ifCond .lt 17, 3) := by decide +kernel
theorem dX5_bitsOf_38 : decode cX5_bitsOf 38 = .ok (.fload_n 1, 1) := by decide +kernel
theorem dX5_bitsOf_39 : decode cX5_bitsOf 39 = .ok (.ldc 222, 2) := by decide +kernel
theorem dX5_bitsOf_41 : decode cX5_bitsOf 41 = .ok (.fmul, 1) := by decide +kernel
theorem dX5_bitsOf_42 : decode cX5_bitsOf 42 = .ok (.fstore_n 1, 1) := by decide +kernel
theorem dX5_bitsOf_43 : decode cX5_bitsOf 43 = .ok (.iinc 2 1, 3) := by decide +kernel
theorem dX5_bitsOf_46 : decode cX5_bitsOf 46 = .ok (.iinc 3 1, 3) := by decide +kernel
theorem dX5_bitsOf_49 : decode cX5_bitsOf 49 = .ok (.goto (-23), 3) := by decide +kernel
theorem dX5_bitsOf_52 : decode cX5_bitsOf 52 = .ok (.iconst 0, 1) := by decide +kernel
theorem dX5_bitsOf_53 : decode cX5_bitsOf 53 = .ok (.istore_n 3, 1) := by decide +kernel
theorem dX5_bitsOf_54 : decode cX5_bitsOf 54 = .ok (.iload_n 3, 1) := by decide +kernel
theorem dX5_bitsOf_55 : decode cX5_bitsOf 55 = .ok (.bipush 126, 2) := by decide +kernel
theorem dX5_bitsOf_57 : decode cX5_bitsOf 57 = .ok (.if_icmp .ge 22, 3) := by decide +kernel
theorem dX5_bitsOf_60 : decode cX5_bitsOf 60 = .ok (.fload_n 1, 1) := by decide +kernel
theorem dX5_bitsOf_61 : decode cX5_bitsOf 61 = .ok (.fconst 1, 1) := by decide +kernel
theorem dX5_bitsOf_62 : decode cX5_bitsOf 62 = .ok (.fcmp .g, 1) := by decide +kernel
theorem dX5_bitsOf_63 : decode cX5_bitsOf 63 = .ok (.ifCond .ge 16, 3) := by decide +kernel
theorem dX5_bitsOf_66 : decode cX5_bitsOf 66 = .ok (.fload_n 1, 1) := by decide +kernel
theorem dX5_bitsOf_67 : decode cX5_bitsOf 67 = .ok (.fconst 2, 1) := by decide +kernel
theorem dX5_bitsOf_68 : decode cX5_bitsOf 68 = .ok (.fmul, 1) := by decide +kernel
theorem dX5_bitsOf_69 : decode cX5_bitsOf 69 = .ok (.fstore_n 1, 1) := by decide +kernel
theorem dX5_bitsOf_70 : decode cX5_bitsOf 70 = .ok (.iinc 2 (-1), 3) := by decide +kernel
theorem dX5_bitsOf_73 : decode cX5_bitsOf 73 = .ok (.iinc 3 1, 3) := by decide +kernel
theorem dX5_bitsOf_76 : decode cX5_bitsOf 76 = .ok (.goto (-22), 3) := by decide +kernel
theorem dX5_bitsOf_79 : decode cX5_bitsOf 79 = .ok (.iload_n 2, 1) := by decide +kernel
theorem dX5_bitsOf_80 : decode cX5_bitsOf 80 = .ok (.bipush 23, 2) := by decide +kernel
theorem dX5_bitsOf_82 : decode cX5_bitsOf 82 = .ok (.ishl, 1) := by decide +kernel
theorem dX5_bitsOf_83 : decode cX5_bitsOf 83 = .ok (.fload_n 1, 1) := by decide +kernel
theorem dX5_bitsOf_84 : decode cX5_bitsOf 84 = .ok (.fconst 1, 1) := by decide +kernel
theorem dX5_bitsOf_85 : decode cX5_bitsOf 85 = .ok (.fsub, 1) := by decide +kernel
theorem dX5_bitsOf_86 : decode cX5_bitsOf 86 = .ok (.ldc 223, 2) := by decide +kernel
theorem dX5_bitsOf_88 : decode cX5_bitsOf 88 = .ok (.fmul, 1) := by decide +kernel
theorem dX5_bitsOf_89 : decode cX5_bitsOf 89 = .ok (.f2i, 1) := by decide +kernel
theorem dX5_bitsOf_90 : decode cX5_bitsOf 90 = .ok (.iadd, 1) := by decide +kernel
theorem dX5_bitsOf_91 : decode cX5_bitsOf 91 = .ok (.istore_n 3, 1) := by decide +kernel
theorem dX5_bitsOf_92 : decode cX5_bitsOf 92 = .ok (.fload_n 0, 1) := by decide +kernel
theorem dX5_bitsOf_93 : decode cX5_bitsOf 93 = .ok (.fconst 0, 1) := by decide +kernel
theorem dX5_bitsOf_94 : decode cX5_bitsOf 94 = .ok (.fcmp .g, 1) := by decide +kernel
theorem dX5_bitsOf_95 : decode cX5_bitsOf 95 = .ok (.ifCond .ge 10, 3) := by decide +kernel
theorem dX5_bitsOf_98 : decode cX5_bitsOf 98 = .ok (.iload_n 3, 1) := by decide +kernel
theorem dX5_bitsOf_99 : decode cX5_bitsOf 99 = .ok (.ldc 224, 2) := by decide +kernel
theorem dX5_bitsOf_101 : decode cX5_bitsOf 101 = .ok (.ior, 1) := by decide +kernel
theorem dX5_bitsOf_102 : decode cX5_bitsOf 102 = .ok (.goto 4, 3) := by decide +kernel
theorem dX5_bitsOf_105 : decode cX5_bitsOf 105 = .ok (.iload_n 3, 1) := by decide +kernel
theorem dX5_bitsOf_106 : decode cX5_bitsOf 106 = .ok (.ireturn, 1) := by decide +kernel
abbrev rm_X5_bitsOf : Room := { frames := 0, cells := 0, slots := 0, locals := 0 }
theorem hy_X5_bitsOf : yX5_bitsOf.cls ≠ "java/lang/invoke/MethodHandle" ∧ yX5_bitsOf.cls ≠ "java/lang/invoke/VarHandle" ∧ (parseMethodDescriptor yX5_bitsOf.desc).map (fun d => d.parameters.length) = some 1 := by decide +kernel
def w_X5_bitsOf_79  (Q : Int32 → z_S → Prop) (x0 : UInt32) (x1 : UInt32) (x2 : Int32) (σ : z_S) : Prop :=
  vf_n32 (FP.fsub x1 FP.fconst1) ∧ vf_n32 (FP.fmul (FP.fsub x1 FP.fconst1) (1258291200 : UInt32)) ∧ ∀ y7 : Int32, y7 = ((x2 <<< ((23 : Int32) &&& 31)) + (FP.f2i (FP.fmul (FP.fsub x1 FP.fconst1) (1258291200 : UInt32)))) → if 0 ≤ (Op.cmpValue (FP.fcmp x0 FP.fconst0) .g) then (Q y7 σ) else (Q (y7 ||| (-2147483648 : Int32)) σ)
def wb_X5_bitsOf_54  (Q : Int32 → z_S → Prop) (k54 : UInt32 → UInt32 → Int32 → Int32 → z_S → Prop) (x0 : UInt32) (x1 : UInt32) (x2 : Int32) (x3 : Int32) (σ : z_S) : Prop :=
  if (126 : Int32) ≤ x3 then (w_X5_bitsOf_79 Q x0 x1 x2 σ) else (if 0 ≤ (Op.cmpValue (FP.fcmp x1 FP.fconst1) .g) then (w_X5_bitsOf_79 Q x0 x1 x2 σ) else (vf_n32 (FP.fmul x1 FP.fconst2) ∧ ∀ y11 : UInt32, y11 = (FP.fmul x1 FP.fconst2) → ∀ y12 : Int32, y12 = (x2 + (-1 : Int32)) → ∀ y13 : Int32, y13 = (x3 + (1 : Int32)) → k54 x0 y11 y12 y13 σ))
def w_X5_bitsOf_54  (Q : Int32 → z_S → Prop) : Nat → UInt32 → UInt32 → Int32 → Int32 → z_S → Prop
  | 0 => fun _ _ _ _ _ => False
  | n + 1 => wb_X5_bitsOf_54  Q (w_X5_bitsOf_54  Q n)
def w_X5_bitsOf_52  (Q : Int32 → z_S → Prop) (x0 : UInt32) (x1 : UInt32) (x2 : Int32) (σ : z_S) : Prop :=
  w_X5_bitsOf_54 Q 400 x0 x1 x2 (0 : Int32) σ
def wb_X5_bitsOf_26  (Q : Int32 → z_S → Prop) (k26 : UInt32 → UInt32 → Int32 → Int32 → z_S → Prop) (x0 : UInt32) (x1 : UInt32) (x2 : Int32) (x3 : Int32) (σ : z_S) : Prop :=
  if (126 : Int32) ≤ x3 then (w_X5_bitsOf_52 Q x0 x1 x2 σ) else (if (Op.cmpValue (FP.fcmp x1 FP.fconst2) .l) < 0 then (w_X5_bitsOf_52 Q x0 x1 x2 σ) else (vf_n32 (FP.fmul x1 (1056964608 : UInt32)) ∧ ∀ y16 : UInt32, y16 = (FP.fmul x1 (1056964608 : UInt32)) → ∀ y17 : Int32, y17 = (x2 + (1 : Int32)) → ∀ y18 : Int32, y18 = (x3 + (1 : Int32)) → k26 x0 y16 y17 y18 σ))
def w_X5_bitsOf_26  (Q : Int32 → z_S → Prop) : Nat → UInt32 → UInt32 → Int32 → Int32 → z_S → Prop
  | 0 => fun _ _ _ _ _ => False
  | n + 1 => wb_X5_bitsOf_26  Q (w_X5_bitsOf_26  Q n)
def w_X5_bitsOf_20  (Q : Int32 → z_S → Prop) (x0 : UInt32) (s0 : UInt32) (σ : z_S) : Prop :=
  w_X5_bitsOf_26 Q 400 x0 s0 (127 : Int32) (0 : Int32) σ
def w_X5_bitsOf (a0 : UInt32) (σ : z_S) (Q : Int32 → z_S → Prop) : Prop :=
  if (Op.cmpValue (FP.fcmp a0 FP.fconst0) .l) = 0 then (Q (0 : Int32) σ) else (if 0 ≤ (Op.cmpValue (FP.fcmp a0 FP.fconst0) .g) then (w_X5_bitsOf_20 Q a0 a0 σ) else (w_X5_bitsOf_20 Q a0 (FP.fneg a0) σ))
set_option maxHeartbeats 4000000 in
set_option maxRecDepth 100000 in
theorem t_X5_bitsOf_79 {l : Launch} {D : va_G} {cI cJ cM cS : ClassId} {n0 : Nat} {p : Program} {e : Env} {s : State} {m : MethodId} {args : Array Value} {below : List Frame} {meth : Method} {c : Code}  {Q : Int32 → z_S → Prop} (hX : z_X D cI cJ cM cS p s m args c cX5_bitsOf 4 yX5_bitsOf.cls) (hY : z_Y s meth (some .int))  (x0 : UInt32) (x1 : UInt32) (x2 : Int32) (σ : z_S) (hf : w_X5_bitsOf_79  Q x0 x1 x2 σ) : z_t D cI cJ cM cS n0 p l e rm_X5_bitsOf s m args below meth c 4 (MQ below (va_Qi Q (fun u t => z_Bq D cI cJ cM cS n0 u t) (z_Ab n0)) args s 0 0 (z_Ab n0)) 0 0 79 [(0, .float x0), (1, .float x1), (2, .int x2)] [] σ := by
  unfold w_X5_bitsOf_79 at hf
  refine zt_iload_n hX 2 dX5_bitsOf_79 rfl rfl ?_
  refine zt_bipush hX dX5_bitsOf_80 (v := (23 : Int32)) (by decide) ?_
  refine zt_ishl hX dX5_bitsOf_82 ?_
  refine zt_fload_n hX 1 dX5_bitsOf_83 rfl rfl ?_
  refine zt_fconst1 hX dX5_bitsOf_84 ?_
  obtain ⟨h5, hf⟩ := hf
  refine zt_fsub hX dX5_bitsOf_85 h5 ?_
  refine zt_ldcf hX dX5_bitsOf_86 kw_508 ?_
  obtain ⟨h6, hf⟩ := hf
  refine zt_fmul hX dX5_bitsOf_88 h6 ?_
  refine zt_f2i hX dX5_bitsOf_89 ?_
  refine zt_iadd hX dX5_bitsOf_90 ?_
  refine zt_nmi (fun y7 e7 => ?_)
  replace hf := hf y7 e7
  refine zt_istore_n (L' := [(3, .int y7), (0, .float x0), (1, .float x1), (2, .int x2)]) hX dX5_bitsOf_91 rfl (by decide) rfl ?_
  refine zt_fload_n hX 1 dX5_bitsOf_92 rfl rfl ?_
  refine zt_fconst0 hX dX5_bitsOf_93 ?_
  refine zt_fcmp hX dX5_bitsOf_94 ?_
  refine zt_if_ge hX dX5_bitsOf_95 (tgt := 105) (by decide) (fun c8 => ?_) (fun c8 => ?_)
  · replace hf := z_pos hf c8
    refine zt_iload_n hX 0 dX5_bitsOf_105 rfl rfl ?_
    exact zt_iret hX hY dX5_bitsOf_106 hf
  · replace hf := z_neg hf c8
    refine zt_iload_n hX 0 dX5_bitsOf_98 rfl rfl ?_
    refine zt_ldc hX dX5_bitsOf_99 kw_509 ?_
    refine zt_ior hX dX5_bitsOf_101 ?_
    refine zt_goto hX dX5_bitsOf_102 (tgt := 106) (by decide) ?_
    exact zt_iret hX hY dX5_bitsOf_106 hf
set_option maxHeartbeats 4000000 in
set_option maxRecDepth 100000 in
theorem t_X5_bitsOf_54 {l : Launch} {D : va_G} {cI cJ cM cS : ClassId} {n0 : Nat} {p : Program} {e : Env} {s : State} {m : MethodId} {args : Array Value} {below : List Frame} {meth : Method} {c : Code}  {Q : Int32 → z_S → Prop} (hX : z_X D cI cJ cM cS p s m args c cX5_bitsOf 4 yX5_bitsOf.cls) (hY : z_Y s meth (some .int))  : ∀ (n : Nat) (x0 : UInt32) (x1 : UInt32) (x2 : Int32) (x3 : Int32) (σ : z_S), w_X5_bitsOf_54  Q n x0 x1 x2 x3 σ → z_t D cI cJ cM cS n0 p l e rm_X5_bitsOf s m args below meth c 4 (MQ below (va_Qi Q (fun u t => z_Bq D cI cJ cM cS n0 u t) (z_Ab n0)) args s 0 0 (z_Ab n0)) 0 0 54 [(0, .float x0), (1, .float x1), (2, .int x2), (3, .int x3)] [] σ := by
  intro n
  induction n with
  | zero => intro _ _ _ _ _ hf; exact hf.elim
  | succ n ih54 =>
    intro x0 x1 x2 x3 σ hf
    have hf : wb_X5_bitsOf_54  Q (w_X5_bitsOf_54  Q n) x0 x1 x2 x3 σ := hf
    unfold wb_X5_bitsOf_54 at hf
    refine zt_iload_n hX 3 dX5_bitsOf_54 rfl rfl ?_
    refine zt_bipush hX dX5_bitsOf_55 (v := (126 : Int32)) (by decide) ?_
    refine zt_icmp_ge hX dX5_bitsOf_57 (tgt := 79) (by decide) (fun c4 => ?_) (fun c4 => ?_)
    · replace hf := z_pos hf c4
      exact zt_sub [0, 1, 2] rfl (t_X5_bitsOf_79 hX hY _ _ _ _ hf)
    · replace hf := z_neg hf c4
      refine zt_fload_n hX 1 dX5_bitsOf_60 rfl rfl ?_
      refine zt_fconst1 hX dX5_bitsOf_61 ?_
      refine zt_fcmp hX dX5_bitsOf_62 ?_
      refine zt_if_ge hX dX5_bitsOf_63 (tgt := 79) (by decide) (fun c9 => ?_) (fun c9 => ?_)
      · replace hf := z_pos hf c9
        exact zt_sub [0, 1, 2] rfl (t_X5_bitsOf_79 hX hY _ _ _ _ hf)
      · replace hf := z_neg hf c9
        refine zt_fload_n hX 1 dX5_bitsOf_66 rfl rfl ?_
        refine zt_fconst2 hX dX5_bitsOf_67 ?_
        obtain ⟨h10, hf⟩ := hf
        refine zt_fmul hX dX5_bitsOf_68 h10 ?_
        refine zt_nmf (fun y11 e11 => ?_)
        replace hf := hf y11 e11
        refine zt_fstore_n (L' := [(1, .float y11), (0, .float x0), (2, .int x2), (3, .int x3)]) hX dX5_bitsOf_69 rfl (by decide) rfl ?_
        obtain ⟨y12, e12⟩ : ∃ y : Int32, y = (x2 + (-1 : Int32)) := ⟨_, rfl⟩
        replace hf := hf y12 e12
        refine zt_iinc (L' := [(2, .int y12), (1, .float y11), (0, .float x0), (3, .int x3)]) hX 2 dX5_bitsOf_70 rfl (v := y12) (by rw [e12]; rfl) (by decide) rfl ?_
        obtain ⟨y13, e13⟩ : ∃ y : Int32, y = (x3 + (1 : Int32)) := ⟨_, rfl⟩
        replace hf := hf y13 e13
        refine zt_iinc (L' := [(3, .int y13), (2, .int y12), (1, .float y11), (0, .float x0)]) hX 3 dX5_bitsOf_73 rfl (v := y13) (by rw [e13]; rfl) (by decide) rfl ?_
        refine zt_goto hX dX5_bitsOf_76 (tgt := 54) (by decide) ?_
        exact zt_sub [3, 2, 1, 0] rfl (ih54 _ _ _ _ _ hf)
set_option maxHeartbeats 4000000 in
set_option maxRecDepth 100000 in
theorem t_X5_bitsOf_52 {l : Launch} {D : va_G} {cI cJ cM cS : ClassId} {n0 : Nat} {p : Program} {e : Env} {s : State} {m : MethodId} {args : Array Value} {below : List Frame} {meth : Method} {c : Code}  {Q : Int32 → z_S → Prop} (hX : z_X D cI cJ cM cS p s m args c cX5_bitsOf 4 yX5_bitsOf.cls) (hY : z_Y s meth (some .int))  (x0 : UInt32) (x1 : UInt32) (x2 : Int32) (σ : z_S) (hf : w_X5_bitsOf_52  Q x0 x1 x2 σ) : z_t D cI cJ cM cS n0 p l e rm_X5_bitsOf s m args below meth c 4 (MQ below (va_Qi Q (fun u t => z_Bq D cI cJ cM cS n0 u t) (z_Ab n0)) args s 0 0 (z_Ab n0)) 0 0 52 [(0, .float x0), (1, .float x1), (2, .int x2)] [] σ := by
  unfold w_X5_bitsOf_52 at hf
  refine zt_iconst hX dX5_bitsOf_52 (v := (0 : Int32)) (by decide) ?_
  refine zt_istore_n (L' := [(3, .int (0 : Int32)), (0, .float x0), (1, .float x1), (2, .int x2)]) hX dX5_bitsOf_53 rfl (by decide) rfl ?_
  exact zt_sub [1, 2, 3, 0] rfl (t_X5_bitsOf_54 hX hY 400 _ _ _ _ _ hf)
set_option maxHeartbeats 4000000 in
set_option maxRecDepth 100000 in
theorem t_X5_bitsOf_26 {l : Launch} {D : va_G} {cI cJ cM cS : ClassId} {n0 : Nat} {p : Program} {e : Env} {s : State} {m : MethodId} {args : Array Value} {below : List Frame} {meth : Method} {c : Code}  {Q : Int32 → z_S → Prop} (hX : z_X D cI cJ cM cS p s m args c cX5_bitsOf 4 yX5_bitsOf.cls) (hY : z_Y s meth (some .int))  : ∀ (n : Nat) (x0 : UInt32) (x1 : UInt32) (x2 : Int32) (x3 : Int32) (σ : z_S), w_X5_bitsOf_26  Q n x0 x1 x2 x3 σ → z_t D cI cJ cM cS n0 p l e rm_X5_bitsOf s m args below meth c 4 (MQ below (va_Qi Q (fun u t => z_Bq D cI cJ cM cS n0 u t) (z_Ab n0)) args s 0 0 (z_Ab n0)) 0 0 26 [(0, .float x0), (1, .float x1), (2, .int x2), (3, .int x3)] [] σ := by
  intro n
  induction n with
  | zero => intro _ _ _ _ _ hf; exact hf.elim
  | succ n ih26 =>
    intro x0 x1 x2 x3 σ hf
    have hf : wb_X5_bitsOf_26  Q (w_X5_bitsOf_26  Q n) x0 x1 x2 x3 σ := hf
    unfold wb_X5_bitsOf_26 at hf
    refine zt_iload_n hX 3 dX5_bitsOf_26 rfl rfl ?_
    refine zt_bipush hX dX5_bitsOf_27 (v := (126 : Int32)) (by decide) ?_
    refine zt_icmp_ge hX dX5_bitsOf_29 (tgt := 52) (by decide) (fun c3 => ?_) (fun c3 => ?_)
    · replace hf := z_pos hf c3
      exact zt_sub [0, 1, 2] rfl (t_X5_bitsOf_52 hX hY _ _ _ _ hf)
    · replace hf := z_neg hf c3
      refine zt_fload_n hX 1 dX5_bitsOf_32 rfl rfl ?_
      refine zt_fconst2 hX dX5_bitsOf_33 ?_
      refine zt_fcmp hX dX5_bitsOf_34 ?_
      refine zt_if_lt hX dX5_bitsOf_35 (tgt := 52) (by decide) (fun c14 => ?_) (fun c14 => ?_)
      · replace hf := z_pos hf c14
        exact zt_sub [0, 1, 2] rfl (t_X5_bitsOf_52 hX hY _ _ _ _ hf)
      · replace hf := z_neg hf c14
        refine zt_fload_n hX 1 dX5_bitsOf_38 rfl rfl ?_
        refine zt_ldcf hX dX5_bitsOf_39 kw_507 ?_
        obtain ⟨h15, hf⟩ := hf
        refine zt_fmul hX dX5_bitsOf_41 h15 ?_
        refine zt_nmf (fun y16 e16 => ?_)
        replace hf := hf y16 e16
        refine zt_fstore_n (L' := [(1, .float y16), (0, .float x0), (2, .int x2), (3, .int x3)]) hX dX5_bitsOf_42 rfl (by decide) rfl ?_
        obtain ⟨y17, e17⟩ : ∃ y : Int32, y = (x2 + (1 : Int32)) := ⟨_, rfl⟩
        replace hf := hf y17 e17
        refine zt_iinc (L' := [(2, .int y17), (1, .float y16), (0, .float x0), (3, .int x3)]) hX 2 dX5_bitsOf_43 rfl (v := y17) (by rw [e17]; rfl) (by decide) rfl ?_
        obtain ⟨y18, e18⟩ : ∃ y : Int32, y = (x3 + (1 : Int32)) := ⟨_, rfl⟩
        replace hf := hf y18 e18
        refine zt_iinc (L' := [(3, .int y18), (2, .int y17), (1, .float y16), (0, .float x0)]) hX 3 dX5_bitsOf_46 rfl (v := y18) (by rw [e18]; rfl) (by decide) rfl ?_
        refine zt_goto hX dX5_bitsOf_49 (tgt := 26) (by decide) ?_
        exact zt_sub [3, 2, 1, 0] rfl (ih26 _ _ _ _ _ hf)
set_option maxHeartbeats 4000000 in
set_option maxRecDepth 100000 in
theorem t_X5_bitsOf_20 {l : Launch} {D : va_G} {cI cJ cM cS : ClassId} {n0 : Nat} {p : Program} {e : Env} {s : State} {m : MethodId} {args : Array Value} {below : List Frame} {meth : Method} {c : Code}  {Q : Int32 → z_S → Prop} (hX : z_X D cI cJ cM cS p s m args c cX5_bitsOf 4 yX5_bitsOf.cls) (hY : z_Y s meth (some .int))  (x0 : UInt32) (s0 : UInt32) (σ : z_S) (hf : w_X5_bitsOf_20  Q x0 s0 σ) : z_t D cI cJ cM cS n0 p l e rm_X5_bitsOf s m args below meth c 4 (MQ below (va_Qi Q (fun u t => z_Bq D cI cJ cM cS n0 u t) (z_Ab n0)) args s 0 0 (z_Ab n0)) 0 0 20 [(0, .float x0)] [.float s0] σ := by
  unfold w_X5_bitsOf_20 at hf
  refine zt_fstore_n (L' := [(1, .float s0), (0, .float x0)]) hX dX5_bitsOf_20 rfl (by decide) rfl ?_
  refine zt_bipush hX dX5_bitsOf_21 (v := (127 : Int32)) (by decide) ?_
  refine zt_istore_n (L' := [(2, .int (127 : Int32)), (1, .float s0), (0, .float x0)]) hX dX5_bitsOf_23 rfl (by decide) rfl ?_
  refine zt_iconst hX dX5_bitsOf_24 (v := (0 : Int32)) (by decide) ?_
  refine zt_istore_n (L' := [(3, .int (0 : Int32)), (2, .int (127 : Int32)), (1, .float s0), (0, .float x0)]) hX dX5_bitsOf_25 rfl (by decide) rfl ?_
  exact zt_sub [3, 2, 1, 0] rfl (t_X5_bitsOf_26 hX hY 400 _ _ _ _ _ hf)
set_option maxHeartbeats 4000000 in
set_option maxRecDepth 100000 in
theorem c_X5_bitsOf {l : Launch} {D : va_G} {cI cJ cM cS : ClassId} {n0 : Nat} {a0 : UInt32} {σ : z_S} {Q : Int32 → z_S → Prop} (hf : w_X5_bitsOf a0 σ Q) : z_ci l D cI cJ cM cS n0 yX5_bitsOf cX5_bitsOf 4 .int rm_X5_bitsOf 0 0 [.float a0] σ Q := by
  refine z_ofi (by decide +kernel) (Nat.le_of_ble_eq_true rfl) (fun p e s m args below meth c hX hY => ?_)
  unfold w_X5_bitsOf at hf
  refine zt_L (L' := [(0, .float a0)]) rfl ?_
  refine zt_fload_n hX 0 dX5_bitsOf_0 rfl rfl ?_
  refine zt_fconst0 hX dX5_bitsOf_1 ?_
  refine zt_fcmp hX dX5_bitsOf_2 ?_
  refine zt_if_ne hX dX5_bitsOf_3 (tgt := 8) (by decide) (fun c1 => ?_) (fun c1 => ?_)
  · replace hf := z_neg hf c1
    refine zt_fload_n hX 0 dX5_bitsOf_8 rfl rfl ?_
    refine zt_fconst0 hX dX5_bitsOf_9 ?_
    refine zt_fcmp hX dX5_bitsOf_10 ?_
    refine zt_if_ge hX dX5_bitsOf_11 (tgt := 19) (by decide) (fun c2 => ?_) (fun c2 => ?_)
    · replace hf := z_pos hf c2
      refine zt_fload_n hX 0 dX5_bitsOf_19 rfl rfl ?_
      exact zt_sub [0] rfl (t_X5_bitsOf_20 hX hY _ _ _ hf)
    · replace hf := z_neg hf c2
      refine zt_fload_n hX 0 dX5_bitsOf_14 rfl rfl ?_
      refine zt_fneg hX dX5_bitsOf_15 ?_
      refine zt_goto hX dX5_bitsOf_16 (tgt := 20) (by decide) ?_
      exact zt_sub [0] rfl (t_X5_bitsOf_20 hX hY _ _ _ hf)
  · replace hf := z_pos hf c1
    refine zt_iconst hX dX5_bitsOf_6 (v := (0 : Int32)) (by decide) ?_
    exact zt_iret hX hY dX5_bitsOf_7 hf
