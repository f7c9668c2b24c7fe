theorem dX6_dayOf_0 : decode cX6_dayOf 0 = .ok (.iconst 0, 1) := by decide +kernel
theorem dX6_dayOf_1 : decode cX6_dayOf 1 = .ok (.istore_n 3, 1) := by decide +kernel
theorem dX6_dayOf_2 : decode cX6_dayOf 2 = .ok (.iconst 0, 1) := by decide +kernel
theorem dX6_dayOf_3 : decode cX6_dayOf 3 = .ok (.istore 4, 2) := by decide +kernel
theorem dX6_dayOf_5 : decode cX6_dayOf 5 = .ok (.iload 4, 2) := by decide +kernel
theorem dX6_dayOf_7 : decode cX6_dayOf 7 = .ok (.bipush 12, 2) := by decide +kernel
theorem dX6_dayOf_9 : decode cX6_dayOf 9 = .ok (.if_icmp .ge 56, 3) := by decide +kernel
theorem dX6_dayOf_12 : decode cX6_dayOf 12 = .ok (.iload_n 3, 1) := by decide +kernel
theorem dX6_dayOf_13 : decode cX6_dayOf 13 = .ok (.iload_n 2, 1) := by decide +kernel
theorem dX6_dayOf_14 : decode cX6_dayOf 14 = .ok (.ifCond .ne 13, 3) := by decide +kernel
theorem dX6_dayOf_17 : decode cX6_dayOf 17 = .ok (.aload_n 0, 1) := by decide +kernel
theorem dX6_dayOf_18 : decode cX6_dayOf 18 = .ok (.iload_n 1, 1) := by decide +kernel
theorem dX6_dayOf_19 : decode cX6_dayOf 19 = .ok (.iload 4, 2) := by decide +kernel
theorem dX6_dayOf_21 : decode cX6_dayOf 21 = .ok (.invokevirtual 122, 3) := by decide +kernel
theorem dX6_dayOf_24 : decode cX6_dayOf 24 = .ok (.goto 33, 3) := by decide +kernel
theorem dX6_dayOf_27 : decode cX6_dayOf 27 = .ok (.iload_n 2, 1) := by decide +kernel
theorem dX6_dayOf_28 : decode cX6_dayOf 28 = .ok (.iconst 1, 1) := by decide +kernel
theorem dX6_dayOf_29 : decode cX6_dayOf 29 = .ok (.if_icmp .ne 13, 3) := by decide +kernel
theorem dX6_dayOf_32 : decode cX6_dayOf 32 = .ok (.aload_n 0, 1) := by decide +kernel
theorem dX6_dayOf_33 : decode cX6_dayOf 33 = .ok (.iload_n 1, 1) := by decide +kernel
theorem dX6_dayOf_34 : decode cX6_dayOf 34 = .ok (.iload 4, 2) := by decide +kernel
theorem dX6_dayOf_36 : decode cX6_dayOf 36 = .ok (.invokevirtual 125, 3) := by decide +kernel
theorem dX6_dayOf_39 : decode cX6_dayOf 39 = .ok (.goto 18, 3) := by decide +kernel
theorem dX6_dayOf_42 : decode cX6_dayOf 42 = .ok (.aload_n 0, 1) := by decide +kernel
theorem dX6_dayOf_43 : decode cX6_dayOf 43 = .ok (.iload_n 1, 1) := by decide +kernel
theorem dX6_dayOf_44 : decode cX6_dayOf 44 = .ok (.iload 4, 2) := by decide +kernel
theorem dX6_dayOf_46 : decode cX6_dayOf 46 = .ok (.invokevirtual 107, 3) := by decide +kernel
theorem dX6_dayOf_49 : decode cX6_dayOf 49 = .ok (.ifCond .eq 7, 3) := by decide +kernel
theorem dX6_dayOf_52 : decode cX6_dayOf 52 = .ok (.iconst 0, 1) := by decide +kernel
theorem dX6_dayOf_53 : decode cX6_dayOf 53 = .ok (.goto 4, 3) := by decide +kernel
theorem dX6_dayOf_56 : decode cX6_dayOf 56 = .ok (.iconst 1, 1) := by decide +kernel
theorem dX6_dayOf_57 : decode cX6_dayOf 57 = .ok (.iadd, 1) := by decide +kernel
theorem dX6_dayOf_58 : decode cX6_dayOf 58 = .ok (.istore_n 3, 1) := by decide +kernel
theorem dX6_dayOf_59 : decode cX6_dayOf 59 = .ok (.iinc 4 1, 3) := by decide +kernel
theorem dX6_dayOf_62 : decode cX6_dayOf 62 = .ok (.goto (-57), 3) := by decide +kernel
theorem dX6_dayOf_65 : decode cX6_dayOf 65 = .ok (.iload_n 3, 1) := by decide +kernel
theorem dX6_dayOf_66 : decode cX6_dayOf 66 = .ok (.ireturn, 1) := by decide +kernel
abbrev rm_X6_dayOf : Room := { frames := 11, cells := 0, slots := 0, locals := 261 }
theorem hy_X6_dayOf : yX6_dayOf.cls ≠ "java/lang/invoke/MethodHandle" ∧ yX6_dayOf.cls ≠ "java/lang/invoke/VarHandle" ∧ (parseMethodDescriptor yX6_dayOf.desc).map (fun d => d.parameters.length) = some 2 := by decide +kernel
def w_X6_dayOf_57 (k5 : Int32 → Int32 → Int32 → Int32 → z_S → Prop) (Q : Int32 → z_S → Prop) (x1 : Int32) (x2 : Int32) (x4 : Int32) (s0 : Int32) (s1 : Int32) (σ : z_S) : Prop :=
  ∀ y7 : Int32, y7 = (s1 + s0) → ∀ y8 : Int32, y8 = (x4 + (1 : Int32)) → k5 x1 x2 y7 y8 σ
def wb_X6_dayOf_5  (Q : Int32 → z_S → Prop) (k5 : Int32 → Int32 → Int32 → Int32 → z_S → Prop) (x1 : Int32) (x2 : Int32) (x3 : Int32) (x4 : Int32) (σ : z_S) : Prop :=
  if (12 : Int32) ≤ x4 then (Q x3 σ) else (if x2 = 0 then (w_X6_energyOf x1 x4 σ (fun r11 σ12 => w_X6_dayOf_57 k5 Q x1 x2 x4 r11 x3 σ12)) else (if x2 = (1 : Int32) then (w_X6_lossOf x1 x4 σ (fun r9 σ10 => w_X6_dayOf_57 k5 Q x1 x2 x4 r9 x3 σ10)) else (w_X6_isValid x1 x4 σ (fun r4 σ5 => if r4 = 0 then (w_X6_dayOf_57 k5 Q x1 x2 x4 (1 : Int32) x3 σ5) else (w_X6_dayOf_57 k5 Q x1 x2 x4 (0 : Int32) x3 σ5)))))
def w_X6_dayOf_5  (Q : Int32 → z_S → Prop) : Nat → Int32 → Int32 → Int32 → Int32 → z_S → Prop
  | 0 => fun _ _ _ _ _ => False
  | n + 1 => wb_X6_dayOf_5  Q (w_X6_dayOf_5  Q n)
def w_X6_dayOf (a1 : Int32) (a2 : Int32) (σ : z_S) (Q : Int32 → z_S → Prop) : Prop :=
  w_X6_dayOf_5 Q 400 a1 a2 (0 : Int32) (0 : Int32) σ
set_option maxHeartbeats 4000000 in
set_option maxRecDepth 100000 in
theorem t_X6_dayOf_57 {l : Launch} {D : va_G} {cI cJ cM cS : ClassId} {n0 : Nat} {p : Program} {e : Env} {s : State} {m : MethodId} {args : Array Value} {below : List Frame} {meth : Method} {c : Code} {k5 : Int32 → Int32 → Int32 → Int32 → z_S → Prop} {Q : Int32 → z_S → Prop} (hX : z_X D cI cJ cM cS p s m args c cX6_dayOf 5 yX6_dayOf.cls) (hY : z_Y s meth (some .int)) (hk5 : ∀ (x1 : Int32) (x2 : Int32) (x3 : Int32) (x4 : Int32) (σ : z_S), k5 x1 x2 x3 x4 σ → z_t D cI cJ cM cS n0 p l e rm_X6_dayOf s m args below meth c 5 (MQ below (va_Qi Q (fun u t => z_Bq D cI cJ cM cS n0 u t) (z_Ab n0)) args s 0 0 (z_Ab n0)) 0 0 5 [(0, .ref (n0 + 73)), (1, .int x1), (2, .int x2), (3, .int x3), (4, .int x4)] [] σ) (x1 : Int32) (x2 : Int32) (x4 : Int32) (s0 : Int32) (s1 : Int32) (σ : z_S) (hf : w_X6_dayOf_57 k5 Q x1 x2 x4 s0 s1 σ) : z_t D cI cJ cM cS n0 p l e rm_X6_dayOf s m args below meth c 5 (MQ below (va_Qi Q (fun u t => z_Bq D cI cJ cM cS n0 u t) (z_Ab n0)) args s 0 0 (z_Ab n0)) 0 0 57 [(0, .ref (n0 + 73)), (1, .int x1), (2, .int x2), (4, .int x4)] [.int s0, .int s1] σ := by
  unfold w_X6_dayOf_57 at hf
  refine zt_iadd hX dX6_dayOf_57 ?_
  refine zt_nmi (fun y7 e7 => ?_)
  replace hf := hf y7 e7
  refine zt_istore_n (L' := [(3, .int y7), (0, .ref (n0 + 73)), (1, .int x1), (2, .int x2), (4, .int x4)]) hX dX6_dayOf_58 rfl (by decide) rfl ?_
  obtain ⟨y8, e8⟩ : ∃ y : Int32, y = (x4 + (1 : Int32)) := ⟨_, rfl⟩
  replace hf := hf y8 e8
  refine zt_iinc (L' := [(4, .int y8), (3, .int y7), (0, .ref (n0 + 73)), (1, .int x1), (2, .int x2)]) hX 4 dX6_dayOf_59 rfl (v := y8) (by rw [e8]; rfl) (by decide) rfl ?_
  refine zt_goto hX dX6_dayOf_62 (tgt := 5) (by decide) ?_
  exact zt_sub [2, 3, 4, 1, 0] rfl (hk5 _ _ _ _ _ hf)
set_option maxHeartbeats 4000000 in
set_option maxRecDepth 100000 in
theorem t_X6_dayOf_5 {l : Launch} {D : va_G} {cI cJ cM cS : ClassId} {n0 : Nat} {p : Program} {e : Env} {s : State} {m : MethodId} {args : Array Value} {below : List Frame} {meth : Method} {c : Code}  {Q : Int32 → z_S → Prop} (hX : z_X D cI cJ cM cS p s m args c cX6_dayOf 5 yX6_dayOf.cls) (hY : z_Y s meth (some .int))  : ∀ (n : Nat) (x1 : Int32) (x2 : Int32) (x3 : Int32) (x4 : Int32) (σ : z_S), w_X6_dayOf_5  Q n x1 x2 x3 x4 σ → z_t D cI cJ cM cS n0 p l e rm_X6_dayOf s m args below meth c 5 (MQ below (va_Qi Q (fun u t => z_Bq D cI cJ cM cS n0 u t) (z_Ab n0)) args s 0 0 (z_Ab n0)) 0 0 5 [(0, .ref (n0 + 73)), (1, .int x1), (2, .int x2), (3, .int x3), (4, .int x4)] [] σ := by
  intro n
  induction n with
  | zero => intro _ _ _ _ _ hf; exact hf.elim
  | succ n ih5 =>
    intro x1 x2 x3 x4 σ hf
    have hf : wb_X6_dayOf_5  Q (w_X6_dayOf_5  Q n) x1 x2 x3 x4 σ := hf
    unfold wb_X6_dayOf_5 at hf
    refine zt_iload hX 4 dX6_dayOf_5 rfl ?_
    refine zt_bipush hX dX6_dayOf_7 (v := (12 : Int32)) (by decide) ?_
    refine zt_icmp_ge hX dX6_dayOf_9 (tgt := 65) (by decide) (fun c1 => ?_) (fun c1 => ?_)
    · replace hf := z_pos hf c1
      refine zt_iload_n hX 3 dX6_dayOf_65 rfl rfl ?_
      exact zt_iret hX hY dX6_dayOf_66 hf
    · replace hf := z_neg hf c1
      refine zt_iload_n hX 3 dX6_dayOf_12 rfl rfl ?_
      refine zt_iload_n hX 2 dX6_dayOf_13 rfl rfl ?_
      refine zt_if_ne hX dX6_dayOf_14 (tgt := 27) (by decide) (fun c2 => ?_) (fun c2 => ?_)
      · replace hf := z_neg hf c2
        refine zt_iload_n hX 2 dX6_dayOf_27 rfl rfl ?_
        refine zt_iconst hX dX6_dayOf_28 (v := (1 : Int32)) (by decide) ?_
        refine zt_icmp_ne hX dX6_dayOf_29 (tgt := 42) (by decide) (fun c3 => ?_) (fun c3 => ?_)
        · replace hf := z_neg hf c3
          refine zt_aload_n hX 0 dX6_dayOf_42 rfl rfl ?_
          refine zt_iload_n hX 1 dX6_dayOf_43 rfl rfl ?_
          refine zt_iload hX 4 dX6_dayOf_44 rfl ?_
          refine zt_calliV hX hY (av := [.int x1, .int x4]) (c_X6_isValid hf) dX6_dayOf_46 rfl kw_838 kw_840 kw_40 kw_67 kw_841 ⟨rfl, rfl⟩ hy_X6_isValid ⟨by decide, by decide⟩ ⟨by decide, by decide⟩ (Nat.le_of_ble_eq_true rfl) (by decide) (zE_73 _ _) rfl rfl (fun r4 σ5 hf => ?_)
          refine zt_if_eq hX dX6_dayOf_49 (tgt := 56) (by decide) (fun c6 => ?_) (fun c6 => ?_)
          · replace hf := z_pos hf c6
            refine zt_iconst hX dX6_dayOf_56 (v := (1 : Int32)) (by decide) ?_
            exact zt_sub [0, 1, 2, 4] rfl (t_X6_dayOf_57 hX hY ih5 _ _ _ _ _ _ hf)
          · replace hf := z_neg hf c6
            refine zt_iconst hX dX6_dayOf_52 (v := (0 : Int32)) (by decide) ?_
            refine zt_goto hX dX6_dayOf_53 (tgt := 57) (by decide) ?_
            exact zt_sub [0, 1, 2, 4] rfl (t_X6_dayOf_57 hX hY ih5 _ _ _ _ _ _ hf)
        · replace hf := z_pos hf c3
          refine zt_aload_n hX 0 dX6_dayOf_32 rfl rfl ?_
          refine zt_iload_n hX 1 dX6_dayOf_33 rfl rfl ?_
          refine zt_iload hX 4 dX6_dayOf_34 rfl ?_
          refine zt_calliV hX hY (av := [.int x1, .int x4]) (c_X6_lossOf hf) dX6_dayOf_36 rfl kw_862 kw_864 kw_44 kw_67 kw_865 ⟨rfl, rfl⟩ hy_X6_lossOf ⟨by decide, by decide⟩ ⟨by decide, by decide⟩ (Nat.le_of_ble_eq_true rfl) (by decide) (zE_73 _ _) rfl rfl (fun r9 σ10 hf => ?_)
          refine zt_goto hX dX6_dayOf_39 (tgt := 57) (by decide) ?_
          exact zt_sub [0, 1, 2, 4] rfl (t_X6_dayOf_57 hX hY ih5 _ _ _ _ _ _ hf)
      · replace hf := z_pos hf c2
        refine zt_aload_n hX 0 dX6_dayOf_17 rfl rfl ?_
        refine zt_iload_n hX 1 dX6_dayOf_18 rfl rfl ?_
        refine zt_iload hX 4 dX6_dayOf_19 rfl ?_
        refine zt_calliV hX hY (av := [.int x1, .int x4]) (c_X6_energyOf hf) dX6_dayOf_21 rfl kw_830 kw_832 kw_38 kw_67 kw_833 ⟨rfl, rfl⟩ hy_X6_energyOf ⟨by decide, by decide⟩ ⟨by decide, by decide⟩ (Nat.le_of_ble_eq_true rfl) (by decide) (zE_73 _ _) rfl rfl (fun r11 σ12 hf => ?_)
        refine zt_goto hX dX6_dayOf_24 (tgt := 57) (by decide) ?_
        exact zt_sub [0, 1, 2, 4] rfl (t_X6_dayOf_57 hX hY ih5 _ _ _ _ _ _ hf)
set_option maxHeartbeats 4000000 in
set_option maxRecDepth 100000 in
theorem c_X6_dayOf {l : Launch} {D : va_G} {cI cJ cM cS : ClassId} {n0 : Nat} {a1 : Int32} {a2 : Int32} {σ : z_S} {Q : Int32 → z_S → Prop} (hf : w_X6_dayOf a1 a2 σ Q) : z_ci l D cI cJ cM cS n0 yX6_dayOf cX6_dayOf 5 .int rm_X6_dayOf 0 0 [.ref (n0 + 73), .int a1, .int a2] σ Q := by
  refine z_ofi (by decide +kernel) (Nat.le_of_ble_eq_true rfl) (fun p e s m args below meth c hX hY => ?_)
  unfold w_X6_dayOf at hf
  refine zt_L (L' := [(0, .ref (n0 + 73)), (1, .int a1), (2, .int a2)]) rfl ?_
  refine zt_iconst hX dX6_dayOf_0 (v := (0 : Int32)) (by decide) ?_
  refine zt_istore_n (L' := [(3, .int (0 : Int32)), (0, .ref (n0 + 73)), (1, .int a1), (2, .int a2)]) hX dX6_dayOf_1 rfl (by decide) rfl ?_
  refine zt_iconst hX dX6_dayOf_2 (v := (0 : Int32)) (by decide) ?_
  refine zt_istore (L' := [(4, .int (0 : Int32)), (3, .int (0 : Int32)), (0, .ref (n0 + 73)), (1, .int a1), (2, .int a2)]) hX dX6_dayOf_3 (by decide) rfl ?_
  exact zt_sub [2, 3, 4, 1, 0] rfl (t_X6_dayOf_5 hX hY 400 _ _ _ _ _ hf)

theorem dX6_day_0 : decode cX6_day 0 = .ok (.aload_n 0, 1) := by decide +kernel
theorem dX6_day_1 : decode cX6_day 1 = .ok (.iload_n 1, 1) := by decide +kernel
theorem dX6_day_2 : decode cX6_day 2 = .ok (.invokevirtual 53, 3) := by decide +kernel
theorem dX6_day_5 : decode cX6_day 5 = .ok (.ifCond .ne 6, 3) := by decide +kernel
theorem dX6_day_8 : decode cX6_day 8 = .ok (.ldc 57, 2) := by decide +kernel
theorem dX6_day_10 : decode cX6_day 10 = .ok (.ireturn, 1) := by decide +kernel
theorem dX6_day_11 : decode cX6_day 11 = .ok (.iload_n 2, 1) := by decide +kernel
theorem dX6_day_12 : decode cX6_day 12 = .ok (.iconst 0, 1) := by decide +kernel
theorem dX6_day_13 : decode cX6_day 13 = .ok (.iconst 3, 1) := by decide +kernel
theorem dX6_day_14 : decode cX6_day 14 = .ok (.invokestatic 40, 3) := by decide +kernel
theorem dX6_day_17 : decode cX6_day 17 = .ok (.ifCond .ne 6, 3) := by decide +kernel
theorem dX6_day_20 : decode cX6_day 20 = .ok (.ldc 66, 2) := by decide +kernel
theorem dX6_day_22 : decode cX6_day 22 = .ok (.ireturn, 1) := by decide +kernel
theorem dX6_day_23 : decode cX6_day 23 = .ok (.iload_n 2, 1) := by decide +kernel
theorem dX6_day_24 : decode cX6_day 24 = .ok (.iconst 2, 1) := by decide +kernel
theorem dX6_day_25 : decode cX6_day 25 = .ok (.if_icmp .ne 14, 3) := by decide +kernel
theorem dX6_day_28 : decode cX6_day 28 = .ok (.aload_n 0, 1) := by decide +kernel
theorem dX6_day_29 : decode cX6_day 29 = .ok (.invokevirtual 139, 3) := by decide +kernel
theorem dX6_day_32 : decode cX6_day 32 = .ok (.aload_n 0, 1) := by decide +kernel
theorem dX6_day_33 : decode cX6_day 33 = .ok (.getfield 26, 3) := by decide +kernel
theorem dX6_day_36 : decode cX6_day 36 = .ok (.iload_n 1, 1) := by decide +kernel
theorem dX6_day_37 : decode cX6_day 37 = .ok (.iaload, 1) := by decide +kernel
theorem dX6_day_38 : decode cX6_day 38 = .ok (.ireturn, 1) := by decide +kernel
theorem dX6_day_39 : decode cX6_day 39 = .ok (.iload_n 2, 1) := by decide +kernel
theorem dX6_day_40 : decode cX6_day 40 = .ok (.iconst 1, 1) := by decide +kernel
theorem dX6_day_41 : decode cX6_day 41 = .ok (.if_icmp .ne 16, 3) := by decide +kernel
theorem dX6_day_44 : decode cX6_day 44 = .ok (.aload_n 0, 1) := by decide +kernel
theorem dX6_day_45 : decode cX6_day 45 = .ok (.iload_n 1, 1) := by decide +kernel
theorem dX6_day_46 : decode cX6_day 46 = .ok (.invokevirtual 68, 3) := by decide +kernel
theorem dX6_day_49 : decode cX6_day 49 = .ok (.ifCond .ne 8, 3) := by decide +kernel
theorem dX6_day_52 : decode cX6_day 52 = .ok (.ldc 48, 2) := by decide +kernel
theorem dX6_day_54 : decode cX6_day 54 = .ok (.goto 9, 3) := by decide +kernel
theorem dX6_day_57 : decode cX6_day 57 = .ok (.aload_n 0, 1) := by decide +kernel
theorem dX6_day_58 : decode cX6_day 58 = .ok (.iload_n 1, 1) := by decide +kernel
theorem dX6_day_59 : decode cX6_day 59 = .ok (.iload_n 2, 1) := by decide +kernel
theorem dX6_day_60 : decode cX6_day 60 = .ok (.invokevirtual 142, 3) := by decide +kernel
theorem dX6_day_63 : decode cX6_day 63 = .ok (.ireturn, 1) := by decide +kernel
abbrev rm_X6_day : Room := { frames := 12, cells := 0, slots := 0, locals := 285 }
theorem hy_X6_day : yX6_day.cls ≠ "java/lang/invoke/MethodHandle" ∧ yX6_day.cls ≠ "java/lang/invoke/VarHandle" ∧ (parseMethodDescriptor yX6_day.desc).map (fun d => d.parameters.length) = some 2 := by decide +kernel
def w_X6_day_57  (Q : Int32 → z_S → Prop) (x1 : Int32) (x2 : Int32) (σ : z_S) : Prop :=
  w_X6_dayOf x1 x2 σ (fun r9 σ10 => Q r9 σ10)
def w_X6_day (a1 : Int32) (a2 : Int32) (σ : z_S) (Q : Int32 → z_S → Prop) : Prop :=
  w_X6_isMeter a1 σ (fun r1 σ2 => if r1 = 0 then (Q (-2000000001 : Int32) σ2) else (w_X6_in a2 (0 : Int32) (3 : Int32) σ2 (fun r4 σ5 => if r4 = 0 then (Q (-2000000002 : Int32) σ5) else (if a2 = (2 : Int32) then (w_X6_billsAll σ5 (fun σ15 => vp_in a1 10 ∧ Q (zg_i σ15 79 a1.toNatClampNeg) σ15)) else (if a2 = (1 : Int32) then (w_X6_children a1 σ5 (fun r11 σ12 => if r11 = 0 then (Q (-2000000000 : Int32) σ12) else (w_X6_day_57 Q a1 a2 σ12))) else (w_X6_day_57 Q a1 a2 σ5))))))
set_option maxHeartbeats 4000000 in
set_option maxRecDepth 100000 in
theorem t_X6_day_57 {l : Launch} {D : va_G} {cI cJ cM cS : ClassId} {n0 : Nat} {p : Program} {e : Env} {s : State} {m : MethodId} {args : Array Value} {below : List Frame} {meth : Method} {c : Code}  {Q : Int32 → z_S → Prop} (hX : z_X D cI cJ cM cS p s m args c cX6_day 3 yX6_day.cls) (hY : z_Y s meth (some .int))  (x1 : Int32) (x2 : Int32) (σ : z_S) (hf : w_X6_day_57  Q x1 x2 σ) : z_t D cI cJ cM cS n0 p l e rm_X6_day s m args below meth c 3 (MQ below (va_Qi Q (fun u t => z_Bq D cI cJ cM cS n0 u t) (z_Ab n0)) args s 0 0 (z_Ab n0)) 0 0 57 [(0, .ref (n0 + 73)), (1, .int x1), (2, .int x2)] [] σ := by
  unfold w_X6_day_57 at hf
  refine zt_aload_n hX 0 dX6_day_57 rfl rfl ?_
  refine zt_iload_n hX 1 dX6_day_58 rfl rfl ?_
  refine zt_iload_n hX 2 dX6_day_59 rfl rfl ?_
  refine zt_calliV hX hY (av := [.int x1, .int x2]) (c_X6_dayOf hf) dX6_day_60 rfl kw_903 kw_905 kw_49 kw_67 kw_906 ⟨rfl, rfl⟩ hy_X6_dayOf ⟨by decide, by decide⟩ ⟨by decide, by decide⟩ (Nat.le_of_ble_eq_true rfl) (by decide) (zE_73 _ _) rfl rfl (fun r9 σ10 hf => ?_)
  exact zt_iret hX hY dX6_day_63 hf
set_option maxHeartbeats 4000000 in
set_option maxRecDepth 100000 in
theorem c_X6_day {l : Launch} {D : va_G} {cI cJ cM cS : ClassId} {n0 : Nat} {a1 : Int32} {a2 : Int32} {σ : z_S} {Q : Int32 → z_S → Prop} (hf : w_X6_day a1 a2 σ Q) : z_ci l D cI cJ cM cS n0 yX6_day cX6_day 3 .int rm_X6_day 0 0 [.ref (n0 + 73), .int a1, .int a2] σ Q := by
  refine z_ofi (by decide +kernel) (Nat.le_of_ble_eq_true rfl) (fun p e s m args below meth c hX hY => ?_)
  unfold w_X6_day at hf
  refine zt_L (L' := [(0, .ref (n0 + 73)), (1, .int a1), (2, .int a2)]) rfl ?_
  refine zt_aload_n hX 0 dX6_day_0 rfl rfl ?_
  refine zt_iload_n hX 1 dX6_day_1 rfl rfl ?_
  refine zt_calliV hX hY (av := [.int a1]) (c_X6_isMeter hf) dX6_day_2 rfl kw_698 kw_700 kw_20 kw_67 kw_701 ⟨rfl, rfl⟩ hy_X6_isMeter ⟨by decide, by decide⟩ ⟨by decide, by decide⟩ (Nat.le_of_ble_eq_true rfl) (by decide) (zE_73 _ _) rfl rfl (fun r1 σ2 hf => ?_)
  refine zt_if_ne hX dX6_day_5 (tgt := 11) (by decide) (fun c3 => ?_) (fun c3 => ?_)
  · replace hf := z_neg hf c3
    refine zt_iload_n hX 2 dX6_day_11 rfl rfl ?_
    refine zt_iconst hX dX6_day_12 (v := (0 : Int32)) (by decide) ?_
    refine zt_iconst hX dX6_day_13 (v := (3 : Int32)) (by decide) ?_
    refine zt_calliS hX hY (av := [.int a2, .int (0 : Int32), .int (3 : Int32)]) (c_X6_in hf) dX6_day_14 rfl kw_702 kw_703 kw_67 kw_704 ⟨rfl, rfl⟩ hy_X6_in ⟨by decide, by decide⟩ ⟨by decide, by decide⟩ (Nat.le_of_ble_eq_true rfl) (fun r4 σ5 hf => ?_)
    refine zt_if_ne hX dX6_day_17 (tgt := 23) (by decide) (fun c6 => ?_) (fun c6 => ?_)
    · replace hf := z_neg hf c6
      refine zt_iload_n hX 2 dX6_day_23 rfl rfl ?_
      refine zt_iconst hX dX6_day_24 (v := (2 : Int32)) (by decide) ?_
      refine zt_icmp_ne hX dX6_day_25 (tgt := 39) (by decide) (fun c7 => ?_) (fun c7 => ?_)
      · replace hf := z_neg hf c7
        refine zt_iload_n hX 2 dX6_day_39 rfl rfl ?_
        refine zt_iconst hX dX6_day_40 (v := (1 : Int32)) (by decide) ?_
        refine zt_icmp_ne hX dX6_day_41 (tgt := 57) (by decide) (fun c8 => ?_) (fun c8 => ?_)
        · replace hf := z_neg hf c8
          exact zt_sub [0, 1, 2] rfl (t_X6_day_57 hX hY _ _ _ hf)
        · replace hf := z_pos hf c8
          refine zt_aload_n hX 0 dX6_day_44 rfl rfl ?_
          refine zt_iload_n hX 1 dX6_day_45 rfl rfl ?_
          refine zt_calliV hX hY (av := [.int a1]) (c_X6_children hf) dX6_day_46 rfl kw_750 kw_752 kw_26 kw_67 kw_753 ⟨rfl, rfl⟩ hy_X6_children ⟨by decide, by decide⟩ ⟨by decide, by decide⟩ (Nat.le_of_ble_eq_true rfl) (by decide) (zE_73 _ _) rfl rfl (fun r11 σ12 hf => ?_)
          refine zt_if_ne hX dX6_day_49 (tgt := 57) (by decide) (fun c13 => ?_) (fun c13 => ?_)
          · replace hf := z_neg hf c13
            exact zt_sub [0, 1, 2] rfl (t_X6_day_57 hX hY _ _ _ hf)
          · replace hf := z_pos hf c13
            refine zt_ldc hX dX6_day_52 kw_715 ?_
            refine zt_goto hX dX6_day_54 (tgt := 63) (by decide) ?_
            exact zt_iret hX hY dX6_day_63 hf
      · replace hf := z_pos hf c7
        refine zt_aload_n hX 0 dX6_day_28 rfl rfl ?_
        refine zt_callvV hX hY (av := []) (c_X6_billsAll hf) dX6_day_29 rfl kw_899 kw_901 kw_48 kw_67 kw_902 ⟨rfl, rfl⟩ hy_X6_billsAll ⟨by decide, by decide⟩ ⟨by decide, by decide⟩ (Nat.le_of_ble_eq_true rfl) (by decide) (zE_73 _ _) rfl rfl (fun σ15 hf => ?_)
        refine zt_aload_n hX 0 dX6_day_32 rfl rfl ?_
        refine zt_get_X6 hX (by decide) (zE_73 _ _) 6 (by decide) kw_660 rfl rfl dX6_day_33 ?_
        refine zt_iload_n hX 1 dX6_day_36 rfl rfl ?_
        obtain ⟨h16, hf⟩ := hf
        refine zt_iaload hX dX6_day_37 (by decide) rfl h16 ?_
        exact zt_iret hX hY dX6_day_38 hf
    · replace hf := z_pos hf c6
      refine zt_ldc hX dX6_day_20 kw_728 ?_
      exact zt_iret hX hY dX6_day_22 hf
  · replace hf := z_pos hf c3
    refine zt_ldc hX dX6_day_8 kw_705 ?_
    exact zt_iret hX hY dX6_day_10 hf

theorem dX6_shareOf_0 : decode cX6_shareOf 0 = .ok (.aload_n 0, 1) := by decide +kernel
theorem dX6_shareOf_1 : decode cX6_shareOf 1 = .ok (.invokevirtual 139, 3) := by decide +kernel
theorem dX6_shareOf_4 : decode cX6_shareOf 4 = .ok (.aload_n 0, 1) := by decide +kernel
theorem dX6_shareOf_5 : decode cX6_shareOf 5 = .ok (.getfield 26, 3) := by decide +kernel
theorem dX6_shareOf_8 : decode cX6_shareOf 8 = .ok (.iconst 0, 1) := by decide +kernel
theorem dX6_shareOf_9 : decode cX6_shareOf 9 = .ok (.iaload, 1) := by decide +kernel
theorem dX6_shareOf_10 : decode cX6_shareOf 10 = .ok (.ifCond .ne 7, 3) := by decide +kernel
theorem dX6_shareOf_13 : decode cX6_shareOf 13 = .ok (.fconst 0, 1) := by decide +kernel
theorem dX6_shareOf_14 : decode cX6_shareOf 14 = .ok (.goto 18, 3) := by decide +kernel
theorem dX6_shareOf_17 : decode cX6_shareOf 17 = .ok (.aload_n 0, 1) := by decide +kernel
theorem dX6_shareOf_18 : decode cX6_shareOf 18 = .ok (.getfield 26, 3) := by decide +kernel
theorem dX6_shareOf_21 : decode cX6_shareOf 21 = .ok (.iload_n 1, 1) := by decide +kernel
theorem dX6_shareOf_22 : decode cX6_shareOf 22 = .ok (.iaload, 1) := by decide +kernel
theorem dX6_shareOf_23 : decode cX6_shareOf 23 = .ok (.i2f, 1) := by decide +kernel
theorem dX6_shareOf_24 : decode cX6_shareOf 24 = .ok (.aload_n 0, 1) := by decide +kernel
theorem dX6_shareOf_25 : decode cX6_shareOf 25 = .ok (.getfield 26, 3) := by decide +kernel
theorem dX6_shareOf_28 : decode cX6_shareOf 28 = .ok (.iconst 0, 1) := by decide +kernel
theorem dX6_shareOf_29 : decode cX6_shareOf 29 = .ok (.iaload, 1) := by decide +kernel
theorem dX6_shareOf_30 : decode cX6_shareOf 30 = .ok (.i2f, 1) := by decide +kernel
theorem dX6_shareOf_31 : decode cX6_shareOf 31 = .ok (.fdiv, 1) := by decide +kernel
theorem dX6_shareOf_32 : decode cX6_shareOf 32 = .ok (.freturn, 1) := by decide +kernel
abbrev rm_X6_shareOf : Room := { frames := 12, cells := 0, slots := 0, locals := 281 }
theorem hy_X6_shareOf : yX6_shareOf.cls ≠ "java/lang/invoke/MethodHandle" ∧ yX6_shareOf.cls ≠ "java/lang/invoke/VarHandle" ∧ (parseMethodDescriptor yX6_shareOf.desc).map (fun d => d.parameters.length) = some 1 := by decide +kernel
def w_X6_shareOf (a1 : Int32) (σ : z_S) (Q : UInt32 → z_S → Prop) : Prop :=
  w_X6_billsAll σ (fun σ2 => vp_in (0 : Int32) 10 ∧ if (zg_i σ2 79 (0 : Int32).toNatClampNeg) = 0 then (Q FP.fconst0 σ2) else (vp_in a1 10 ∧ vp_in (0 : Int32) 10 ∧ vf_n32 (FP.fdiv (FP.i2f (zg_i σ2 79 a1.toNatClampNeg)) (FP.i2f (zg_i σ2 79 (0 : Int32).toNatClampNeg))) ∧ Q (FP.fdiv (FP.i2f (zg_i σ2 79 a1.toNatClampNeg)) (FP.i2f (zg_i σ2 79 (0 : Int32).toNatClampNeg))) σ2))
set_option maxHeartbeats 4000000 in
set_option maxRecDepth 100000 in
theorem c_X6_shareOf {l : Launch} {D : va_G} {cI cJ cM cS : ClassId} {n0 : Nat} {a1 : Int32} {σ : z_S} {Q : UInt32 → z_S → Prop} (hf : w_X6_shareOf a1 σ Q) : z_cf l D cI cJ cM cS n0 yX6_shareOf cX6_shareOf 2 .float rm_X6_shareOf 0 0 [.ref (n0 + 73), .int a1] σ Q := by
  refine z_off (by decide +kernel) (Nat.le_of_ble_eq_true rfl) (fun p e s m args below meth c hX hY => ?_)
  unfold w_X6_shareOf at hf
  refine zt_L (L' := [(0, .ref (n0 + 73)), (1, .int a1)]) rfl ?_
  refine zt_aload_n hX 0 dX6_shareOf_0 rfl rfl ?_
  refine zt_callvV hX hY (av := []) (c_X6_billsAll hf) dX6_shareOf_1 rfl kw_899 kw_901 kw_48 kw_67 kw_902 ⟨rfl, rfl⟩ hy_X6_billsAll ⟨by decide, by decide⟩ ⟨by decide, by decide⟩ (Nat.le_of_ble_eq_true rfl) (by decide) (zE_73 _ _) rfl rfl (fun σ2 hf => ?_)
  refine zt_aload_n hX 0 dX6_shareOf_4 rfl rfl ?_
  refine zt_get_X6 hX (by decide) (zE_73 _ _) 6 (by decide) kw_660 rfl rfl dX6_shareOf_5 ?_
  refine zt_iconst hX dX6_shareOf_8 (v := (0 : Int32)) (by decide) ?_
  obtain ⟨h3, hf⟩ := hf
  refine zt_iaload hX dX6_shareOf_9 (by decide) rfl h3 ?_
  refine zt_if_ne hX dX6_shareOf_10 (tgt := 17) (by decide) (fun c4 => ?_) (fun c4 => ?_)
  · replace hf := z_neg hf c4
    refine zt_aload_n hX 0 dX6_shareOf_17 rfl rfl ?_
    refine zt_get_X6 hX (by decide) (zE_73 _ _) 6 (by decide) kw_660 rfl rfl dX6_shareOf_18 ?_
    refine zt_iload_n hX 1 dX6_shareOf_21 rfl rfl ?_
    obtain ⟨h5, hf⟩ := hf
    refine zt_iaload hX dX6_shareOf_22 (by decide) rfl h5 ?_
    refine zt_i2f hX dX6_shareOf_23 ?_
    refine zt_aload_n hX 0 dX6_shareOf_24 rfl rfl ?_
    refine zt_get_X6 hX (by decide) (zE_73 _ _) 6 (by decide) kw_660 rfl rfl dX6_shareOf_25 ?_
    refine zt_iconst hX dX6_shareOf_28 (v := (0 : Int32)) (by decide) ?_
    obtain ⟨h6, hf⟩ := hf
    refine zt_iaload hX dX6_shareOf_29 (by decide) rfl h6 ?_
    refine zt_i2f hX dX6_shareOf_30 ?_
    obtain ⟨h7, hf⟩ := hf
    refine zt_fdiv hX dX6_shareOf_31 h7 ?_
    exact zt_fret hX hY dX6_shareOf_32 hf
  · replace hf := z_pos hf c4
    refine zt_fconst0 hX dX6_shareOf_13 ?_
    refine zt_goto hX dX6_shareOf_14 (tgt := 32) (by decide) ?_
    exact zt_fret hX hY dX6_shareOf_32 hf

theorem dJxf58ca_isNaN_12338_0 : decode cJxf58ca_isNaN_12338 0 = .ok (.fload_n 0, 1) := by decide +kernel
theorem dJxf58ca_isNaN_12338_1 : decode cJxf58ca_isNaN_12338 1 = .ok (.fload_n 0, 1) := by decide +kernel
theorem dJxf58ca_isNaN_12338_2 : decode cJxf58ca_isNaN_12338 2 = .ok (.fcmp .l, 1) := by decide +kernel
theorem dJxf58ca_isNaN_12338_3 : decode cJxf58ca_isNaN_12338 3 = .ok (.ifCond .eq 7, 3) := by decide +kernel
theorem dJxf58ca_isNaN_12338_6 : decode cJxf58ca_isNaN_12338 6 = .ok (.iconst 1, 1) := by decide +kernel
theorem dJxf58ca_isNaN_12338_7 : decode cJxf58ca_isNaN_12338 7 = .ok (.goto 4, 3) := by decide +kernel
theorem dJxf58ca_isNaN_12338_10 : decode cJxf58ca_isNaN_12338 10 = .ok (.iconst 0, 1) := by decide +kernel
theorem dJxf58ca_isNaN_12338_11 : decode cJxf58ca_isNaN_12338 11 = .ok (.ireturn, 1) := by decide +kernel
abbrev rm_Jxf58ca_isNaN_12338 : Room := { frames := 0, cells := 0, slots := 0, locals := 0 }
theorem hy_Jxf58ca_isNaN_12338 : yJxf58ca_isNaN_12338.cls ≠ "java/lang/invoke/MethodHandle" ∧ yJxf58ca_isNaN_12338.cls ≠ "java/lang/invoke/VarHandle" ∧ (parseMethodDescriptor yJxf58ca_isNaN_12338.desc).map (fun d => d.parameters.length) = some 1 := by decide +kernel
def w_Jxf58ca_isNaN_12338 (a0 : UInt32) (σ : z_S) (Q : Int32 → z_S → Prop) : Prop :=
  if (Op.cmpValue (FP.fcmp a0 a0) .l) = 0 then (((0 : Int32) = 0 ∨ (0 : Int32) = 1) ∧ Q (0 : Int32) σ) else (((1 : Int32) = 0 ∨ (1 : Int32) = 1) ∧ Q (1 : Int32) σ)
set_option maxHeartbeats 4000000 in
set_option maxRecDepth 100000 in
theorem c_Jxf58ca_isNaN_12338 {l : Launch} {D : va_G} {cI cJ cM cS : ClassId} {n0 : Nat} {a0 : UInt32} {σ : z_S} {Q : Int32 → z_S → Prop} (hf : w_Jxf58ca_isNaN_12338 a0 σ Q) : z_ci l D cI cJ cM cS n0 yJxf58ca_isNaN_12338 cJxf58ca_isNaN_12338 1 .boolean rm_Jxf58ca_isNaN_12338 0 0 [.float a0] σ Q := by
  refine z_ofiF (by decide +kernel) (Nat.le_of_ble_eq_true rfl) (fun p e s m args below meth c hX hY => ?_)
  unfold w_Jxf58ca_isNaN_12338 at hf
  refine zt_L (L' := [(0, .float a0)]) rfl ?_
  refine zt_fload_n hX 0 dJxf58ca_isNaN_12338_0 rfl rfl ?_
  refine zt_fload_n hX 0 dJxf58ca_isNaN_12338_1 rfl rfl ?_
  refine zt_fcmp hX dJxf58ca_isNaN_12338_2 ?_
  refine zt_if_eq hX dJxf58ca_isNaN_12338_3 (tgt := 10) (by decide) (fun c1 => ?_) (fun c1 => ?_)
  · replace hf := z_pos hf c1
    refine zt_iconst hX dJxf58ca_isNaN_12338_10 (v := (0 : Int32)) (by decide) ?_
    exact zt_zret hX hY dJxf58ca_isNaN_12338_11 hf
  · replace hf := z_neg hf c1
    refine zt_iconst hX dJxf58ca_isNaN_12338_6 (v := (1 : Int32)) (by decide) ?_
    refine zt_goto hX dJxf58ca_isNaN_12338_7 (tgt := 11) (by decide) ?_
    exact zt_zret hX hY dJxf58ca_isNaN_12338_11 hf

theorem dJxf58ca_floatToIntBits_5c35a_0 : decode cJxf58ca_floatToIntBits_5c35a 0 = .ok (.fload_n 0, 1) := by decide +kernel
theorem dJxf58ca_floatToIntBits_5c35a_1 : decode cJxf58ca_floatToIntBits_5c35a 1 = .ok (.invokestatic 59, 3) := by decide +kernel
theorem dJxf58ca_floatToIntBits_5c35a_4 : decode cJxf58ca_floatToIntBits_5c35a 4 = .ok (.ifCond .ne 8, 3) := by decide +kernel
theorem dJxf58ca_floatToIntBits_5c35a_7 : decode cJxf58ca_floatToIntBits_5c35a 7 = .ok (.fload_n 0, 1) := by decide +kernel
theorem dJxf58ca_floatToIntBits_5c35a_8 : decode cJxf58ca_floatToIntBits_5c35a 8 = .ok (.invokestatic 74, 3) := by decide +kernel
theorem dJxf58ca_floatToIntBits_5c35a_11 : decode cJxf58ca_floatToIntBits_5c35a 11 = .ok (.ireturn, 1) := by decide +kernel
theorem dJxf58ca_floatToIntBits_5c35a_12 : decode cJxf58ca_floatToIntBits_5c35a 12 = .ok (.ldc 77, 2) := by decide +kernel
theorem dJxf58ca_floatToIntBits_5c35a_14 : decode cJxf58ca_floatToIntBits_5c35a 14 = .ok (.ireturn, 1) := by decide +kernel
abbrev rm_Jxf58ca_floatToIntBits_5c35a : Room := { frames := 1, cells := 0, slots := 0, locals := 20 }
theorem hy_Jxf58ca_floatToIntBits_5c35a : yJxf58ca_floatToIntBits_5c35a.cls ≠ "java/lang/invoke/MethodHandle" ∧ yJxf58ca_floatToIntBits_5c35a.cls ≠ "java/lang/invoke/VarHandle" ∧ (parseMethodDescriptor yJxf58ca_floatToIntBits_5c35a.desc).map (fun d => d.parameters.length) = some 1 := by decide +kernel
def w_Jxf58ca_floatToIntBits_5c35a (a0 : UInt32) (σ : z_S) (Q : Int32 → z_S → Prop) : Prop :=
  w_Jxf58ca_isNaN_12338 a0 σ (fun r1 σ2 => if r1 = 0 then (Q (a0.toInt32) σ2) else (Q (2143289344 : Int32) σ2))
set_option maxHeartbeats 4000000 in
set_option maxRecDepth 100000 in
theorem c_Jxf58ca_floatToIntBits_5c35a {l : Launch} {D : va_G} {cI cJ cM cS : ClassId} {n0 : Nat} {a0 : UInt32} {σ : z_S} {Q : Int32 → z_S → Prop} (hf : w_Jxf58ca_floatToIntBits_5c35a a0 σ Q) : z_ci l D cI cJ cM cS n0 yJxf58ca_floatToIntBits_5c35a cJxf58ca_floatToIntBits_5c35a 1 .int rm_Jxf58ca_floatToIntBits_5c35a 0 0 [.float a0] σ Q := by
  refine z_ofiF (by decide +kernel) (Nat.le_of_ble_eq_true rfl) (fun p e s m args below meth c hX hY => ?_)
  unfold w_Jxf58ca_floatToIntBits_5c35a at hf
  refine zt_L (L' := [(0, .float a0)]) rfl ?_
  refine zt_fload_n hX 0 dJxf58ca_floatToIntBits_5c35a_0 rfl rfl ?_
  refine zt_calliS hX hY (av := [.float a0]) (c_Jxf58ca_isNaN_12338 hf) dJxf58ca_floatToIntBits_5c35a_1 rfl kw_918 kw_919 kw_70 kw_920 ⟨rfl, rfl⟩ hy_Jxf58ca_isNaN_12338 ⟨by decide, by decide⟩ ⟨by decide, by decide⟩ (Nat.le_of_ble_eq_true rfl) (fun r1 σ2 hf => ?_)
  refine zt_if_ne hX dJxf58ca_floatToIntBits_5c35a_4 (tgt := 12) (by decide) (fun c3 => ?_) (fun c3 => ?_)
  · replace hf := z_neg hf c3
    refine zt_ldc hX dJxf58ca_floatToIntBits_5c35a_12 kw_924 ?_
    exact zt_iret hX hY dJxf58ca_floatToIntBits_5c35a_14 hf
  · replace hf := z_pos hf c3
    refine zt_fload_n hX 0 dJxf58ca_floatToIntBits_5c35a_7 rfl rfl ?_
    refine zt_f2raw hX dJxf58ca_floatToIntBits_5c35a_8 kw_921 (by decide) (Nat.le_of_ble_eq_true rfl) ?_
    exact zt_iret hX hY dJxf58ca_floatToIntBits_5c35a_11 hf

theorem dX6_shareBits_0 : decode cX6_shareBits 0 = .ok (.aload_n 0, 1) := by decide +kernel
theorem dX6_shareBits_1 : decode cX6_shareBits 1 = .ok (.iload_n 1, 1) := by decide +kernel
theorem dX6_shareBits_2 : decode cX6_shareBits 2 = .ok (.invokevirtual 53, 3) := by decide +kernel
theorem dX6_shareBits_5 : decode cX6_shareBits 5 = .ok (.ifCond .eq 14, 3) := by decide +kernel
theorem dX6_shareBits_8 : decode cX6_shareBits 8 = .ok (.aload_n 0, 1) := by decide +kernel
theorem dX6_shareBits_9 : decode cX6_shareBits 9 = .ok (.iload_n 1, 1) := by decide +kernel
theorem dX6_shareBits_10 : decode cX6_shareBits 10 = .ok (.invokevirtual 145, 3) := by decide +kernel
theorem dX6_shareBits_13 : decode cX6_shareBits 13 = .ok (.invokestatic 149, 3) := by decide +kernel
theorem dX6_shareBits_16 : decode cX6_shareBits 16 = .ok (.goto 5, 3) := by decide +kernel
theorem dX6_shareBits_19 : decode cX6_shareBits 19 = .ok (.ldc 57, 2) := by decide +kernel
theorem dX6_shareBits_21 : decode cX6_shareBits 21 = .ok (.ireturn, 1) := by decide +kernel
abbrev rm_X6_shareBits : Room := { frames := 13, cells := 0, slots := 0, locals := 302 }
theorem hy_X6_shareBits : yX6_shareBits.cls ≠ "java/lang/invoke/MethodHandle" ∧ yX6_shareBits.cls ≠ "java/lang/invoke/VarHandle" ∧ (parseMethodDescriptor yX6_shareBits.desc).map (fun d => d.parameters.length) = some 1 := by decide +kernel
def w_X6_shareBits (a1 : Int32) (σ : z_S) (Q : Int32 → z_S → Prop) : Prop :=
  w_X6_isMeter a1 σ (fun r1 σ2 => if r1 = 0 then (Q (-2000000001 : Int32) σ2) else (w_X6_shareOf a1 σ2 (fun r4 σ5 => w_Jxf58ca_floatToIntBits_5c35a r4 σ5 (fun r6 σ7 => Q r6 σ7))))
set_option maxHeartbeats 4000000 in
set_option maxRecDepth 100000 in
theorem c_X6_shareBits {l : Launch} {D : va_G} {cI cJ cM cS : ClassId} {n0 : Nat} {a1 : Int32} {σ : z_S} {Q : Int32 → z_S → Prop} (hf : w_X6_shareBits a1 σ Q) : z_ci l D cI cJ cM cS n0 yX6_shareBits cX6_shareBits 2 .int rm_X6_shareBits 0 0 [.ref (n0 + 73), .int a1] σ Q := by
  refine z_ofi (by decide +kernel) (Nat.le_of_ble_eq_true rfl) (fun p e s m args below meth c hX hY => ?_)
  unfold w_X6_shareBits at hf
  refine zt_L (L' := [(0, .ref (n0 + 73)), (1, .int a1)]) rfl ?_
  refine zt_aload_n hX 0 dX6_shareBits_0 rfl rfl ?_
  refine zt_iload_n hX 1 dX6_shareBits_1 rfl rfl ?_
  refine zt_calliV hX hY (av := [.int a1]) (c_X6_isMeter hf) dX6_shareBits_2 rfl kw_698 kw_700 kw_20 kw_67 kw_701 ⟨rfl, rfl⟩ hy_X6_isMeter ⟨by decide, by decide⟩ ⟨by decide, by decide⟩ (Nat.le_of_ble_eq_true rfl) (by decide) (zE_73 _ _) rfl rfl (fun r1 σ2 hf => ?_)
  refine zt_if_eq hX dX6_shareBits_5 (tgt := 19) (by decide) (fun c3 => ?_) (fun c3 => ?_)
  · replace hf := z_pos hf c3
    refine zt_ldc hX dX6_shareBits_19 kw_705 ?_
    exact zt_iret hX hY dX6_shareBits_21 hf
  · replace hf := z_neg hf c3
    refine zt_aload_n hX 0 dX6_shareBits_8 rfl rfl ?_
    refine zt_iload_n hX 1 dX6_shareBits_9 rfl rfl ?_
    refine zt_callfV hX hY (av := [.int a1]) (c_X6_shareOf hf) dX6_shareBits_10 rfl kw_911 kw_913 kw_50 kw_67 kw_914 ⟨rfl, rfl⟩ hy_X6_shareOf ⟨by decide, by decide⟩ ⟨by decide, by decide⟩ (Nat.le_of_ble_eq_true rfl) (by decide) (zE_73 _ _) rfl rfl (fun r4 σ5 hf => ?_)
    refine zt_calliS hX hY (av := [.float r4]) (c_Jxf58ca_floatToIntBits_5c35a hf) dX6_shareBits_13 rfl kw_915 kw_916 kw_70 kw_917 ⟨rfl, rfl⟩ hy_Jxf58ca_floatToIntBits_5c35a ⟨by decide, by decide⟩ ⟨by decide, by decide⟩ (Nat.le_of_ble_eq_true rfl) (fun r6 σ7 hf => ?_)
    refine zt_goto hX dX6_shareBits_16 (tgt := 21) (by decide) ?_
    exact zt_iret hX hY dX6_shareBits_21 hf

theorem dX6_share_0 : decode cX6_share 0 = .ok (.aload_n 0, 1) := by decide +kernel
theorem dX6_share_1 : decode cX6_share 1 = .ok (.iload_n 1, 1) := by decide +kernel
theorem dX6_share_2 : decode cX6_share 2 = .ok (.invokevirtual 53, 3) := by decide +kernel
theorem dX6_share_5 : decode cX6_share 5 = .ok (.ifCond .eq 15, 3) := by decide +kernel
theorem dX6_share_8 : decode cX6_share 8 = .ok (.aload_n 0, 1) := by decide +kernel
theorem dX6_share_9 : decode cX6_share 9 = .ok (.iload_n 1, 1) := by decide +kernel
theorem dX6_share_10 : decode cX6_share 10 = .ok (.invokevirtual 145, 3) := by decide +kernel
theorem dX6_share_13 : decode cX6_share 13 = .ok (.ldc 155, 2) := by decide +kernel
theorem dX6_share_15 : decode cX6_share 15 = .ok (.fmul, 1) := by decide +kernel
theorem dX6_share_16 : decode cX6_share 16 = .ok (.f2i, 1) := by decide +kernel
theorem dX6_share_17 : decode cX6_share 17 = .ok (.goto 5, 3) := by decide +kernel
theorem dX6_share_20 : decode cX6_share 20 = .ok (.ldc 57, 2) := by decide +kernel
theorem dX6_share_22 : decode cX6_share 22 = .ok (.ireturn, 1) := by decide +kernel
abbrev rm_X6_share : Room := { frames := 13, cells := 0, slots := 0, locals := 302 }
theorem hy_X6_share : yX6_share.cls ≠ "java/lang/invoke/MethodHandle" ∧ yX6_share.cls ≠ "java/lang/invoke/VarHandle" ∧ (parseMethodDescriptor yX6_share.desc).map (fun d => d.parameters.length) = some 1 := by decide +kernel
def w_X6_share (a1 : Int32) (σ : z_S) (Q : Int32 → z_S → Prop) : Prop :=
  w_X6_isMeter a1 σ (fun r1 σ2 => if r1 = 0 then (Q (-2000000001 : Int32) σ2) else (w_X6_shareOf a1 σ2 (fun r4 σ5 => vf_n32 (FP.fmul r4 (1148846080 : UInt32)) ∧ Q (FP.f2i (FP.fmul r4 (1148846080 : UInt32))) σ5)))
set_option maxHeartbeats 4000000 in
set_option maxRecDepth 100000 in
theorem c_X6_share {l : Launch} {D : va_G} {cI cJ cM cS : ClassId} {n0 : Nat} {a1 : Int32} {σ : z_S} {Q : Int32 → z_S → Prop} (hf : w_X6_share a1 σ Q) : z_ci l D cI cJ cM cS n0 yX6_share cX6_share 2 .int rm_X6_share 0 0 [.ref (n0 + 73), .int a1] σ Q := by
  refine z_ofi (by decide +kernel) (Nat.le_of_ble_eq_true rfl) (fun p e s m args below meth c hX hY => ?_)
  unfold w_X6_share at hf
  refine zt_L (L' := [(0, .ref (n0 + 73)), (1, .int a1)]) rfl ?_
  refine zt_aload_n hX 0 dX6_share_0 rfl rfl ?_
  refine zt_iload_n hX 1 dX6_share_1 rfl rfl ?_
  refine zt_calliV hX hY (av := [.int a1]) (c_X6_isMeter hf) dX6_share_2 rfl kw_698 kw_700 kw_20 kw_67 kw_701 ⟨rfl, rfl⟩ hy_X6_isMeter ⟨by decide, by decide⟩ ⟨by decide, by decide⟩ (Nat.le_of_ble_eq_true rfl) (by decide) (zE_73 _ _) rfl rfl (fun r1 σ2 hf => ?_)
  refine zt_if_eq hX dX6_share_5 (tgt := 20) (by decide) (fun c3 => ?_) (fun c3 => ?_)
  · replace hf := z_pos hf c3
    refine zt_ldc hX dX6_share_20 kw_705 ?_
    exact zt_iret hX hY dX6_share_22 hf
  · replace hf := z_neg hf c3
    refine zt_aload_n hX 0 dX6_share_8 rfl rfl ?_
    refine zt_iload_n hX 1 dX6_share_9 rfl rfl ?_
    refine zt_callfV hX hY (av := [.int a1]) (c_X6_shareOf hf) dX6_share_10 rfl kw_911 kw_913 kw_50 kw_67 kw_914 ⟨rfl, rfl⟩ hy_X6_shareOf ⟨by decide, by decide⟩ ⟨by decide, by decide⟩ (Nat.le_of_ble_eq_true rfl) (by decide) (zE_73 _ _) rfl rfl (fun r4 σ5 hf => ?_)
    refine zt_ldcf hX dX6_share_13 kw_929 ?_
    obtain ⟨h6, hf⟩ := hf
    refine zt_fmul hX dX6_share_15 h6 ?_
    refine zt_f2i hX dX6_share_16 ?_
    refine zt_goto hX dX6_share_17 (tgt := 22) (by decide) ?_
    exact zt_iret hX hY dX6_share_22 hf

theorem dX6_times_0 : decode cX6_times 0 = .ok (.iload_n 1, 1) := by decide +kernel
theorem dX6_times_1 : decode cX6_times 1 = .ok (.tableswitch 81 0 7 #[47, 52, 56, 60, 64, 68, 72, 76], 47) := by decide +kernel
theorem dX6_times_48 : decode cX6_times 48 = .ok (.iload_n 0, 1) := by decide +kernel
theorem dX6_times_49 : decode cX6_times 49 = .ok (.bipush 10, 2) := by decide +kernel
theorem dX6_times_51 : decode cX6_times 51 = .ok (.idiv, 1) := by decide +kernel
theorem dX6_times_52 : decode cX6_times 52 = .ok (.ireturn, 1) := by decide +kernel
theorem dX6_times_53 : decode cX6_times 53 = .ok (.iload_n 0, 1) := by decide +kernel
theorem dX6_times_54 : decode cX6_times 54 = .ok (.iconst 5, 1) := by decide +kernel
theorem dX6_times_55 : decode cX6_times 55 = .ok (.idiv, 1) := by decide +kernel
theorem dX6_times_56 : decode cX6_times 56 = .ok (.ireturn, 1) := by decide +kernel
theorem dX6_times_57 : decode cX6_times 57 = .ok (.iload_n 0, 1) := by decide +kernel
theorem dX6_times_58 : decode cX6_times 58 = .ok (.iconst 4, 1) := by decide +kernel
theorem dX6_times_59 : decode cX6_times 59 = .ok (.idiv, 1) := by decide +kernel
theorem dX6_times_60 : decode cX6_times 60 = .ok (.ireturn, 1) := by decide +kernel
theorem dX6_times_61 : decode cX6_times 61 = .ok (.iload_n 0, 1) := by decide +kernel
theorem dX6_times_62 : decode cX6_times 62 = .ok (.iconst 2, 1) := by decide +kernel
theorem dX6_times_63 : decode cX6_times 63 = .ok (.idiv, 1) := by decide +kernel
theorem dX6_times_64 : decode cX6_times 64 = .ok (.ireturn, 1) := by decide +kernel
theorem dX6_times_65 : decode cX6_times 65 = .ok (.iconst 2, 1) := by decide +kernel
theorem dX6_times_66 : decode cX6_times 66 = .ok (.iload_n 0, 1) := by decide +kernel
theorem dX6_times_67 : decode cX6_times 67 = .ok (.imul, 1) := by decide +kernel
theorem dX6_times_68 : decode cX6_times 68 = .ok (.ireturn, 1) := by decide +kernel
theorem dX6_times_69 : decode cX6_times 69 = .ok (.iconst 4, 1) := by decide +kernel
theorem dX6_times_70 : decode cX6_times 70 = .ok (.iload_n 0, 1) := by decide +kernel
theorem dX6_times_71 : decode cX6_times 71 = .ok (.imul, 1) := by decide +kernel
theorem dX6_times_72 : decode cX6_times 72 = .ok (.ireturn, 1) := by decide +kernel
theorem dX6_times_73 : decode cX6_times 73 = .ok (.iconst 5, 1) := by decide +kernel
theorem dX6_times_74 : decode cX6_times 74 = .ok (.iload_n 0, 1) := by decide +kernel
theorem dX6_times_75 : decode cX6_times 75 = .ok (.imul, 1) := by decide +kernel
theorem dX6_times_76 : decode cX6_times 76 = .ok (.ireturn, 1) := by decide +kernel
theorem dX6_times_77 : decode cX6_times 77 = .ok (.bipush 10, 2) := by decide +kernel
theorem dX6_times_79 : decode cX6_times 79 = .ok (.iload_n 0, 1) := by decide +kernel
theorem dX6_times_80 : decode cX6_times 80 = .ok (.imul, 1) := by decide +kernel
theorem dX6_times_81 : decode cX6_times 81 = .ok (.ireturn, 1) := by decide +kernel
theorem dX6_times_82 : decode cX6_times 82 = .ok (.iload_n 0, 1) := by decide +kernel
theorem dX6_times_83 : decode cX6_times 83 = .ok (.ireturn, 1) := by decide +kernel
abbrev rm_X6_times : Room := { frames := 0, cells := 0, slots := 0, locals := 0 }
theorem hy_X6_times : yX6_times.cls ≠ "java/lang/invoke/MethodHandle" ∧ yX6_times.cls ≠ "java/lang/invoke/VarHandle" ∧ (parseMethodDescriptor yX6_times.desc).map (fun d => d.parameters.length) = some 2 := by decide +kernel
def w_X6_times (a0 : Int32) (a1 : Int32) (σ : z_S) (Q : Int32 → z_S → Prop) : Prop :=
  if a1 = (0 : Int32) then (¬ (10 : Int32) = 0 ∧ Q (a0 / (10 : Int32)) σ) else (if a1 = (1 : Int32) then (¬ (5 : Int32) = 0 ∧ Q (a0 / (5 : Int32)) σ) else (if a1 = (2 : Int32) then (¬ (4 : Int32) = 0 ∧ Q (a0 / (4 : Int32)) σ) else (if a1 = (3 : Int32) then (¬ (2 : Int32) = 0 ∧ Q (a0 / (2 : Int32)) σ) else (if a1 = (4 : Int32) then (Q ((2 : Int32) * a0) σ) else (if a1 = (5 : Int32) then (Q ((4 : Int32) * a0) σ) else (if a1 = (6 : Int32) then (Q ((5 : Int32) * a0) σ) else (if a1 = (7 : Int32) then (Q ((10 : Int32) * a0) σ) else (Q a0 σ))))))))
set_option maxHeartbeats 4000000 in
set_option maxRecDepth 100000 in
theorem c_X6_times {l : Launch} {D : va_G} {cI cJ cM cS : ClassId} {n0 : Nat} {a0 : Int32} {a1 : Int32} {σ : z_S} {Q : Int32 → z_S → Prop} (hf : w_X6_times a0 a1 σ Q) : z_ci l D cI cJ cM cS n0 yX6_times cX6_times 2 .int rm_X6_times 0 0 [.int a0, .int a1] σ Q := by
  refine z_ofi (by decide +kernel) (Nat.le_of_ble_eq_true rfl) (fun p e s m args below meth c hX hY => ?_)
  unfold w_X6_times at hf
  refine zt_L (L' := [(0, .int a0), (1, .int a1)]) rfl ?_
  refine zt_iload_n hX 1 dX6_times_0 rfl rfl ?_
  by_cases c1 : a1 = (0 : Int32)
  · replace hf := z_pos hf c1
    refine zt_tabIn hX dX6_times_1 (by rw [c1]; decide) (by rw [c1]; decide) (off := 47) (by rw [c1]; rfl) (tgt := 48) (by decide) ?_
    refine zt_iload_n hX 0 dX6_times_48 rfl rfl ?_
    refine zt_bipush hX dX6_times_49 (v := (10 : Int32)) (by decide) ?_
    obtain ⟨h2, hf⟩ := hf
    refine zt_idiv hX dX6_times_51 h2 ?_
    exact zt_iret hX hY dX6_times_52 hf
  replace hf := z_neg hf c1
  by_cases c3 : a1 = (1 : Int32)
  · replace hf := z_pos hf c3
    refine zt_tabIn hX dX6_times_1 (by rw [c3]; decide) (by rw [c3]; decide) (off := 52) (by rw [c3]; rfl) (tgt := 53) (by decide) ?_
    refine zt_iload_n hX 0 dX6_times_53 rfl rfl ?_
    refine zt_iconst hX dX6_times_54 (v := (5 : Int32)) (by decide) ?_
    obtain ⟨h4, hf⟩ := hf
    refine zt_idiv hX dX6_times_55 h4 ?_
    exact zt_iret hX hY dX6_times_56 hf
  replace hf := z_neg hf c3
  by_cases c5 : a1 = (2 : Int32)
  · replace hf := z_pos hf c5
    refine zt_tabIn hX dX6_times_1 (by rw [c5]; decide) (by rw [c5]; decide) (off := 56) (by rw [c5]; rfl) (tgt := 57) (by decide) ?_
    refine zt_iload_n hX 0 dX6_times_57 rfl rfl ?_
    refine zt_iconst hX dX6_times_58 (v := (4 : Int32)) (by decide) ?_
    obtain ⟨h6, hf⟩ := hf
    refine zt_idiv hX dX6_times_59 h6 ?_
    exact zt_iret hX hY dX6_times_60 hf
  replace hf := z_neg hf c5
  by_cases c7 : a1 = (3 : Int32)
  · replace hf := z_pos hf c7
    refine zt_tabIn hX dX6_times_1 (by rw [c7]; decide) (by rw [c7]; decide) (off := 60) (by rw [c7]; rfl) (tgt := 61) (by decide) ?_
    refine zt_iload_n hX 0 dX6_times_61 rfl rfl ?_
    refine zt_iconst hX dX6_times_62 (v := (2 : Int32)) (by decide) ?_
    obtain ⟨h8, hf⟩ := hf
    refine zt_idiv hX dX6_times_63 h8 ?_
    exact zt_iret hX hY dX6_times_64 hf
  replace hf := z_neg hf c7
  by_cases c9 : a1 = (4 : Int32)
  · replace hf := z_pos hf c9
    refine zt_tabIn hX dX6_times_1 (by rw [c9]; decide) (by rw [c9]; decide) (off := 64) (by rw [c9]; rfl) (tgt := 65) (by decide) ?_
    refine zt_iconst hX dX6_times_65 (v := (2 : Int32)) (by decide) ?_
    refine zt_iload_n hX 0 dX6_times_66 rfl rfl ?_
    refine zt_imul hX dX6_times_67 ?_
    exact zt_iret hX hY dX6_times_68 hf
  replace hf := z_neg hf c9
  by_cases c10 : a1 = (5 : Int32)
  · replace hf := z_pos hf c10
    refine zt_tabIn hX dX6_times_1 (by rw [c10]; decide) (by rw [c10]; decide) (off := 68) (by rw [c10]; rfl) (tgt := 69) (by decide) ?_
    refine zt_iconst hX dX6_times_69 (v := (4 : Int32)) (by decide) ?_
    refine zt_iload_n hX 0 dX6_times_70 rfl rfl ?_
    refine zt_imul hX dX6_times_71 ?_
    exact zt_iret hX hY dX6_times_72 hf
  replace hf := z_neg hf c10
  by_cases c11 : a1 = (6 : Int32)
  · replace hf := z_pos hf c11
    refine zt_tabIn hX dX6_times_1 (by rw [c11]; decide) (by rw [c11]; decide) (off := 72) (by rw [c11]; rfl) (tgt := 73) (by decide) ?_
    refine zt_iconst hX dX6_times_73 (v := (5 : Int32)) (by decide) ?_
    refine zt_iload_n hX 0 dX6_times_74 rfl rfl ?_
    refine zt_imul hX dX6_times_75 ?_
    exact zt_iret hX hY dX6_times_76 hf
  replace hf := z_neg hf c11
  by_cases c12 : a1 = (7 : Int32)
  · replace hf := z_pos hf c12
    refine zt_tabIn hX dX6_times_1 (by rw [c12]; decide) (by rw [c12]; decide) (off := 76) (by rw [c12]; rfl) (tgt := 77) (by decide) ?_
    refine zt_bipush hX dX6_times_77 (v := (10 : Int32)) (by decide) ?_
    refine zt_iload_n hX 0 dX6_times_79 rfl rfl ?_
    refine zt_imul hX dX6_times_80 ?_
    exact zt_iret hX hY dX6_times_81 hf
  replace hf := z_neg hf c12
  have qc1 := lv_neT c1 (show (0 : Int32).toInt = 0 from rfl)
  have qc3 := lv_neT c3 (show (1 : Int32).toInt = 1 from rfl)
  have qc5 := lv_neT c5 (show (2 : Int32).toInt = 2 from rfl)
  have qc7 := lv_neT c7 (show (3 : Int32).toInt = 3 from rfl)
  have qc9 := lv_neT c9 (show (4 : Int32).toInt = 4 from rfl)
  have qc10 := lv_neT c10 (show (5 : Int32).toInt = 5 from rfl)
  have qc11 := lv_neT c11 (show (6 : Int32).toInt = 6 from rfl)
  have qc12 := lv_neT c12 (show (7 : Int32).toInt = 7 from rfl)
  refine zt_tabOut hX dX6_times_1 (by omega) (tgt := 82) (by decide) ?_
  refine zt_iload_n hX 0 dX6_times_82 rfl rfl ?_
  exact zt_iret hX hY dX6_times_83 hf

theorem dX6_imbalanceOf_0 : decode cX6_imbalanceOf 0 = .ok (.iconst 0, 1) := by decide +kernel
theorem dX6_imbalanceOf_1 : decode cX6_imbalanceOf 1 = .ok (.istore 4, 2) := by decide +kernel
theorem dX6_imbalanceOf_3 : decode cX6_imbalanceOf 3 = .ok (.iconst 0, 1) := by decide +kernel
theorem dX6_imbalanceOf_4 : decode cX6_imbalanceOf 4 = .ok (.istore 5, 2) := by decide +kernel
theorem dX6_imbalanceOf_6 : decode cX6_imbalanceOf 6 = .ok (.iload 5, 2) := by decide +kernel
theorem dX6_imbalanceOf_8 : decode cX6_imbalanceOf 8 = .ok (.bipush 12, 2) := by decide +kernel
theorem dX6_imbalanceOf_10 : decode cX6_imbalanceOf 10 = .ok (.if_icmp .ge 70, 3) := by decide +kernel
theorem dX6_imbalanceOf_13 : decode cX6_imbalanceOf 13 = .ok (.aload_n 0, 1) := by decide +kernel
theorem dX6_imbalanceOf_14 : decode cX6_imbalanceOf 14 = .ok (.iload_n 1, 1) := by decide +kernel
theorem dX6_imbalanceOf_15 : decode cX6_imbalanceOf 15 = .ok (.iload 5, 2) := by decide +kernel
theorem dX6_imbalanceOf_17 : decode cX6_imbalanceOf 17 = .ok (.invokevirtual 125, 3) := by decide +kernel
theorem dX6_imbalanceOf_20 : decode cX6_imbalanceOf 20 = .ok (.istore 6, 2) := by decide +kernel
theorem dX6_imbalanceOf_22 : decode cX6_imbalanceOf 22 = .ok (.iload 6, 2) := by decide +kernel
theorem dX6_imbalanceOf_24 : decode cX6_imbalanceOf 24 = .ok (.iload_n 3, 1) := by decide +kernel
theorem dX6_imbalanceOf_25 : decode cX6_imbalanceOf 25 = .ok (.bipush 8, 2) := by decide +kernel
theorem dX6_imbalanceOf_27 : decode cX6_imbalanceOf 27 = .ok (.if_icmp .ge 25, 3) := by decide +kernel
theorem dX6_imbalanceOf_30 : decode cX6_imbalanceOf 30 = .ok (.aload_n 0, 1) := by decide +kernel
theorem dX6_imbalanceOf_31 : decode cX6_imbalanceOf 31 = .ok (.iload_n 2, 1) := by decide +kernel
theorem dX6_imbalanceOf_32 : decode cX6_imbalanceOf 32 = .ok (.iload 5, 2) := by decide +kernel
theorem dX6_imbalanceOf_34 : decode cX6_imbalanceOf 34 = .ok (.invokevirtual 122, 3) := by decide +kernel
theorem dX6_imbalanceOf_37 : decode cX6_imbalanceOf 37 = .ok (.aload_n 0, 1) := by decide +kernel
theorem dX6_imbalanceOf_38 : decode cX6_imbalanceOf 38 = .ok (.iload_n 2, 1) := by decide +kernel
theorem dX6_imbalanceOf_39 : decode cX6_imbalanceOf 39 = .ok (.iload 5, 2) := by decide +kernel
theorem dX6_imbalanceOf_41 : decode cX6_imbalanceOf 41 = .ok (.invokevirtual 122, 3) := by decide +kernel
theorem dX6_imbalanceOf_44 : decode cX6_imbalanceOf 44 = .ok (.iload_n 3, 1) := by decide +kernel
theorem dX6_imbalanceOf_45 : decode cX6_imbalanceOf 45 = .ok (.invokestatic 156, 3) := by decide +kernel
theorem dX6_imbalanceOf_48 : decode cX6_imbalanceOf 48 = .ok (.isub, 1) := by decide +kernel
theorem dX6_imbalanceOf_49 : decode cX6_imbalanceOf 49 = .ok (.goto 4, 3) := by decide +kernel
theorem dX6_imbalanceOf_52 : decode cX6_imbalanceOf 52 = .ok (.iconst 0, 1) := by decide +kernel
theorem dX6_imbalanceOf_53 : decode cX6_imbalanceOf 53 = .ok (.iadd, 1) := by decide +kernel
theorem dX6_imbalanceOf_54 : decode cX6_imbalanceOf 54 = .ok (.istore 6, 2) := by decide +kernel
theorem dX6_imbalanceOf_56 : decode cX6_imbalanceOf 56 = .ok (.iload 4, 2) := by decide +kernel
theorem dX6_imbalanceOf_58 : decode cX6_imbalanceOf 58 = .ok (.iload 6, 2) := by decide +kernel
theorem dX6_imbalanceOf_60 : decode cX6_imbalanceOf 60 = .ok (.ifCond .ge 9, 3) := by decide +kernel
theorem dX6_imbalanceOf_63 : decode cX6_imbalanceOf 63 = .ok (.iload 6, 2) := by decide +kernel
theorem dX6_imbalanceOf_65 : decode cX6_imbalanceOf 65 = .ok (.ineg, 1) := by decide +kernel
theorem dX6_imbalanceOf_66 : decode cX6_imbalanceOf 66 = .ok (.goto 5, 3) := by decide +kernel
theorem dX6_imbalanceOf_69 : decode cX6_imbalanceOf 69 = .ok (.iload 6, 2) := by decide +kernel
theorem dX6_imbalanceOf_71 : decode cX6_imbalanceOf 71 = .ok (.iadd, 1) := by decide +kernel
theorem dX6_imbalanceOf_72 : decode cX6_imbalanceOf 72 = .ok (.istore 4, 2) := by decide +kernel
theorem dX6_imbalanceOf_74 : decode cX6_imbalanceOf 74 = .ok (.iinc 5 1, 3) := by decide +kernel
theorem dX6_imbalanceOf_77 : decode cX6_imbalanceOf 77 = .ok (.goto (-71), 3) := by decide +kernel
theorem dX6_imbalanceOf_80 : decode cX6_imbalanceOf 80 = .ok (.iload 4, 2) := by decide +kernel
theorem dX6_imbalanceOf_82 : decode cX6_imbalanceOf 82 = .ok (.ireturn, 1) := by decide +kernel
abbrev rm_X6_imbalanceOf : Room := { frames := 11, cells := 0, slots := 0, locals := 261 }
theorem hy_X6_imbalanceOf : yX6_imbalanceOf.cls ≠ "java/lang/invoke/MethodHandle" ∧ yX6_imbalanceOf.cls ≠ "java/lang/invoke/VarHandle" ∧ (parseMethodDescriptor yX6_imbalanceOf.desc).map (fun d => d.parameters.length) = some 3 := by decide +kernel
def w_X6_imbalanceOf_71 (k6 : Int32 → Int32 → Int32 → Int32 → Int32 → z_S → Prop) (Q : Int32 → z_S → Prop) (x1 : Int32) (x2 : Int32) (x3 : Int32) (x5 : Int32) (s0 : Int32) (s1 : Int32) (σ : z_S) : Prop :=
  ∀ y7 : Int32, y7 = (s1 + s0) → ∀ y8 : Int32, y8 = (x5 + (1 : Int32)) → k6 x1 x2 x3 y7 y8 σ
def w_X6_imbalanceOf_53 (k6 : Int32 → Int32 → Int32 → Int32 → Int32 → z_S → Prop) (Q : Int32 → z_S → Prop) (x1 : Int32) (x2 : Int32) (x3 : Int32) (x4 : Int32) (x5 : Int32) (s0 : Int32) (s1 : Int32) (σ : z_S) : Prop :=
  ∀ y5 : Int32, y5 = (s1 + s0) → if 0 ≤ y5 then (w_X6_imbalanceOf_71 k6 Q x1 x2 x3 x5 y5 x4 σ) else (w_X6_imbalanceOf_71 k6 Q x1 x2 x3 x5 (-y5) x4 σ)
def wb_X6_imbalanceOf_6  (Q : Int32 → z_S → Prop) (k6 : Int32 → Int32 → Int32 → Int32 → Int32 → z_S → Prop) (x1 : Int32) (x2 : Int32) (x3 : Int32) (x4 : Int32) (x5 : Int32) (σ : z_S) : Prop :=
  if (12 : Int32) ≤ x5 then (Q x4 σ) else (w_X6_lossOf x1 x5 σ (fun r2 σ3 => if (8 : Int32) ≤ x3 then (w_X6_imbalanceOf_53 k6 Q x1 x2 x3 x4 x5 (0 : Int32) r2 σ3) else (w_X6_energyOf x2 x5 σ3 (fun r9 σ10 => w_X6_energyOf x2 x5 σ10 (fun r11 σ12 => w_X6_times r11 x3 σ12 (fun r13 σ14 => w_X6_imbalanceOf_53 k6 Q x1 x2 x3 x4 x5 (r9 - r13) r2 σ14))))))
def w_X6_imbalanceOf_6  (Q : Int32 → z_S → Prop) : Nat → Int32 → Int32 → Int32 → Int32 → Int32 → z_S → Prop
  | 0 => fun _ _ _ _ _ _ => False
  | n + 1 => wb_X6_imbalanceOf_6  Q (w_X6_imbalanceOf_6  Q n)
def w_X6_imbalanceOf (a1 : Int32) (a2 : Int32) (a3 : Int32) (σ : z_S) (Q : Int32 → z_S → Prop) : Prop :=
  w_X6_imbalanceOf_6 Q 400 a1 a2 a3 (0 : Int32) (0 : Int32) σ
set_option maxHeartbeats 4000000 in
set_option maxRecDepth 100000 in
theorem t_X6_imbalanceOf_71 {l : Launch} {D : va_G} {cI cJ cM cS : ClassId} {n0 : Nat} {p : Program} {e : Env} {s : State} {m : MethodId} {args : Array Value} {below : List Frame} {meth : Method} {c : Code} {k6 : Int32 → Int32 → Int32 → Int32 → Int32 → z_S → Prop} {Q : Int32 → z_S → Prop} (hX : z_X D cI cJ cM cS p s m args c cX6_imbalanceOf 7 yX6_imbalanceOf.cls) (hY : z_Y s meth (some .int)) (hk6 : ∀ (x1 : Int32) (x2 : Int32) (x3 : Int32) (x4 : Int32) (x5 : Int32) (σ : z_S), k6 x1 x2 x3 x4 x5 σ → z_t D cI cJ cM cS n0 p l e rm_X6_imbalanceOf s m args below meth c 7 (MQ below (va_Qi Q (fun u t => z_Bq D cI cJ cM cS n0 u t) (z_Ab n0)) args s 0 0 (z_Ab n0)) 0 0 6 [(0, .ref (n0 + 73)), (1, .int x1), (2, .int x2), (3, .int x3), (4, .int x4), (5, .int x5)] [] σ) (x1 : Int32) (x2 : Int32) (x3 : Int32) (x5 : Int32) (s0 : Int32) (s1 : Int32) (σ : z_S) (hf : w_X6_imbalanceOf_71 k6 Q x1 x2 x3 x5 s0 s1 σ) : z_t D cI cJ cM cS n0 p l e rm_X6_imbalanceOf s m args below meth c 7 (MQ below (va_Qi Q (fun u t => z_Bq D cI cJ cM cS n0 u t) (z_Ab n0)) args s 0 0 (z_Ab n0)) 0 0 71 [(0, .ref (n0 + 73)), (1, .int x1), (2, .int x2), (3, .int x3), (5, .int x5)] [.int s0, .int s1] σ := by
  unfold w_X6_imbalanceOf_71 at hf
  refine zt_iadd hX dX6_imbalanceOf_71 ?_
  refine zt_nmi (fun y7 e7 => ?_)
  replace hf := hf y7 e7
  refine zt_istore (L' := [(4, .int y7), (0, .ref (n0 + 73)), (1, .int x1), (2, .int x2), (3, .int x3), (5, .int x5)]) hX dX6_imbalanceOf_72 (by decide) rfl ?_
  obtain ⟨y8, e8⟩ : ∃ y : Int32, y = (x5 + (1 : Int32)) := ⟨_, rfl⟩
  replace hf := hf y8 e8
  refine zt_iinc (L' := [(5, .int y8), (4, .int y7), (0, .ref (n0 + 73)), (1, .int x1), (2, .int x2), (3, .int x3)]) hX 5 dX6_imbalanceOf_74 rfl (v := y8) (by rw [e8]; rfl) (by decide) rfl ?_
  refine zt_goto hX dX6_imbalanceOf_77 (tgt := 6) (by decide) ?_
  exact zt_sub [2, 3, 4, 5, 1, 0] rfl (hk6 _ _ _ _ _ _ hf)
set_option maxHeartbeats 4000000 in
set_option maxRecDepth 100000 in
theorem t_X6_imbalanceOf_53 {l : Launch} {D : va_G} {cI cJ cM cS : ClassId} {n0 : Nat} {p : Program} {e : Env} {s : State} {m : MethodId} {args : Array Value} {below : List Frame} {meth : Method} {c : Code} {k6 : Int32 → Int32 → Int32 → Int32 → Int32 → z_S → Prop} {Q : Int32 → z_S → Prop} (hX : z_X D cI cJ cM cS p s m args c cX6_imbalanceOf 7 yX6_imbalanceOf.cls) (hY : z_Y s meth (some .int)) (hk6 : ∀ (x1 : Int32) (x2 : Int32) (x3 : Int32) (x4 : Int32) (x5 : Int32) (σ : z_S), k6 x1 x2 x3 x4 x5 σ → z_t D cI cJ cM cS n0 p l e rm_X6_imbalanceOf s m args below meth c 7 (MQ below (va_Qi Q (fun u t => z_Bq D cI cJ cM cS n0 u t) (z_Ab n0)) args s 0 0 (z_Ab n0)) 0 0 6 [(0, .ref (n0 + 73)), (1, .int x1), (2, .int x2), (3, .int x3), (4, .int x4), (5, .int x5)] [] σ) (x1 : Int32) (x2 : Int32) (x3 : Int32) (x4 : Int32) (x5 : Int32) (s0 : Int32) (s1 : Int32) (σ : z_S) (hf : w_X6_imbalanceOf_53 k6 Q x1 x2 x3 x4 x5 s0 s1 σ) : z_t D cI cJ cM cS n0 p l e rm_X6_imbalanceOf s m args below meth c 7 (MQ below (va_Qi Q (fun u t => z_Bq D cI cJ cM cS n0 u t) (z_Ab n0)) args s 0 0 (z_Ab n0)) 0 0 53 [(0, .ref (n0 + 73)), (1, .int x1), (2, .int x2), (3, .int x3), (4, .int x4), (5, .int x5)] [.int s0, .int s1] σ := by
  unfold w_X6_imbalanceOf_53 at hf
  refine zt_iadd hX dX6_imbalanceOf_53 ?_
  refine zt_nmi (fun y5 e5 => ?_)
  replace hf := hf y5 e5
  refine zt_istore (L' := [(6, .int y5), (0, .ref (n0 + 73)), (1, .int x1), (2, .int x2), (3, .int x3), (4, .int x4), (5, .int x5)]) hX dX6_imbalanceOf_54 (by decide) rfl ?_
  refine zt_iload hX 5 dX6_imbalanceOf_56 rfl ?_
  refine zt_iload hX 0 dX6_imbalanceOf_58 rfl ?_
  refine zt_if_ge hX dX6_imbalanceOf_60 (tgt := 69) (by decide) (fun c6 => ?_) (fun c6 => ?_)
  · replace hf := z_pos hf c6
    refine zt_iload hX 0 dX6_imbalanceOf_69 rfl ?_
    exact zt_sub [1, 2, 3, 4, 6] rfl (t_X6_imbalanceOf_71 hX hY hk6 _ _ _ _ _ _ _ hf)
  · replace hf := z_neg hf c6
    refine zt_iload hX 0 dX6_imbalanceOf_63 rfl ?_
    refine zt_ineg hX dX6_imbalanceOf_65 ?_
    refine zt_goto hX dX6_imbalanceOf_66 (tgt := 71) (by decide) ?_
    exact zt_sub [1, 2, 3, 4, 6] rfl (t_X6_imbalanceOf_71 hX hY hk6 _ _ _ _ _ _ _ hf)
set_option maxHeartbeats 4000000 in
set_option maxRecDepth 100000 in
theorem t_X6_imbalanceOf_6 {l : Launch} {D : va_G} {cI cJ cM cS : ClassId} {n0 : Nat} {p : Program} {e : Env} {s : State} {m : MethodId} {args : Array Value} {below : List Frame} {meth : Method} {c : Code}  {Q : Int32 → z_S → Prop} (hX : z_X D cI cJ cM cS p s m args c cX6_imbalanceOf 7 yX6_imbalanceOf.cls) (hY : z_Y s meth (some .int))  : ∀ (n : Nat) (x1 : Int32) (x2 : Int32) (x3 : Int32) (x4 : Int32) (x5 : Int32) (σ : z_S), w_X6_imbalanceOf_6  Q n x1 x2 x3 x4 x5 σ → z_t D cI cJ cM cS n0 p l e rm_X6_imbalanceOf s m args below meth c 7 (MQ below (va_Qi Q (fun u t => z_Bq D cI cJ cM cS n0 u t) (z_Ab n0)) args s 0 0 (z_Ab n0)) 0 0 6 [(0, .ref (n0 + 73)), (1, .int x1), (2, .int x2), (3, .int x3), (4, .int x4), (5, .int x5)] [] σ := by
  intro n
  induction n with
  | zero => intro _ _ _ _ _ _ hf; exact hf.elim
  | succ n ih6 =>
    intro x1 x2 x3 x4 x5 σ hf
    have hf : wb_X6_imbalanceOf_6  Q (w_X6_imbalanceOf_6  Q n) x1 x2 x3 x4 x5 σ := hf
    unfold wb_X6_imbalanceOf_6 at hf
    refine zt_iload hX 5 dX6_imbalanceOf_6 rfl ?_
    refine zt_bipush hX dX6_imbalanceOf_8 (v := (12 : Int32)) (by decide) ?_
    refine zt_icmp_ge hX dX6_imbalanceOf_10 (tgt := 80) (by decide) (fun c1 => ?_) (fun c1 => ?_)
    · replace hf := z_pos hf c1
      refine zt_iload hX 4 dX6_imbalanceOf_80 rfl ?_
      exact zt_iret hX hY dX6_imbalanceOf_82 hf
    · replace hf := z_neg hf c1
      refine zt_aload_n hX 0 dX6_imbalanceOf_13 rfl rfl ?_
      refine zt_iload_n hX 1 dX6_imbalanceOf_14 rfl rfl ?_
      refine zt_iload hX 5 dX6_imbalanceOf_15 rfl ?_
      refine zt_calliV hX hY (av := [.int x1, .int x5]) (c_X6_lossOf hf) dX6_imbalanceOf_17 rfl kw_862 kw_864 kw_44 kw_67 kw_865 ⟨rfl, rfl⟩ hy_X6_lossOf ⟨by decide, by decide⟩ ⟨by decide, by decide⟩ (Nat.le_of_ble_eq_true rfl) (by decide) (zE_73 _ _) rfl rfl (fun r2 σ3 hf => ?_)
      refine zt_istore (L' := [(6, .int r2), (0, .ref (n0 + 73)), (1, .int x1), (2, .int x2), (3, .int x3), (4, .int x4), (5, .int x5)]) hX dX6_imbalanceOf_20 (by decide) rfl ?_
      refine zt_iload hX 0 dX6_imbalanceOf_22 rfl ?_
      refine zt_iload_n hX 4 dX6_imbalanceOf_24 rfl rfl ?_
      refine zt_bipush hX dX6_imbalanceOf_25 (v := (8 : Int32)) (by decide) ?_
      refine zt_icmp_ge hX dX6_imbalanceOf_27 (tgt := 52) (by decide) (fun c4 => ?_) (fun c4 => ?_)
      · replace hf := z_pos hf c4
        refine zt_iconst hX dX6_imbalanceOf_52 (v := (0 : Int32)) (by decide) ?_
        exact zt_sub [1, 2, 3, 4, 5, 6] rfl (t_X6_imbalanceOf_53 hX hY ih6 _ _ _ _ _ _ _ _ hf)
      · replace hf := z_neg hf c4
        refine zt_aload_n hX 1 dX6_imbalanceOf_30 rfl rfl ?_
        refine zt_iload_n hX 3 dX6_imbalanceOf_31 rfl rfl ?_
        refine zt_iload hX 6 dX6_imbalanceOf_32 rfl ?_
        refine zt_calliV hX hY (av := [.int x2, .int x5]) (c_X6_energyOf hf) dX6_imbalanceOf_34 rfl kw_830 kw_832 kw_38 kw_67 kw_833 ⟨rfl, rfl⟩ hy_X6_energyOf ⟨by decide, by decide⟩ ⟨by decide, by decide⟩ (Nat.le_of_ble_eq_true rfl) (by decide) (zE_73 _ _) rfl rfl (fun r9 σ10 hf => ?_)
        refine zt_aload_n hX 1 dX6_imbalanceOf_37 rfl rfl ?_
        refine zt_iload_n hX 3 dX6_imbalanceOf_38 rfl rfl ?_
        refine zt_iload hX 6 dX6_imbalanceOf_39 rfl ?_
        refine zt_calliV hX hY (av := [.int x2, .int x5]) (c_X6_energyOf hf) dX6_imbalanceOf_41 rfl kw_830 kw_832 kw_38 kw_67 kw_833 ⟨rfl, rfl⟩ hy_X6_energyOf ⟨by decide, by decide⟩ ⟨by decide, by decide⟩ (Nat.le_of_ble_eq_true rfl) (by decide) (zE_73 _ _) rfl rfl (fun r11 σ12 hf => ?_)
        refine zt_iload_n hX 4 dX6_imbalanceOf_44 rfl rfl ?_
        refine zt_calliS hX hY (av := [.int r11, .int x3]) (c_X6_times hf) dX6_imbalanceOf_45 rfl kw_938 kw_939 kw_67 kw_940 ⟨rfl, rfl⟩ hy_X6_times ⟨by decide, by decide⟩ ⟨by decide, by decide⟩ (Nat.le_of_ble_eq_true rfl) (fun r13 σ14 hf => ?_)
        refine zt_isub hX dX6_imbalanceOf_48 ?_
        refine zt_goto hX dX6_imbalanceOf_49 (tgt := 53) (by decide) ?_
        exact zt_sub [1, 2, 3, 4, 5, 6] rfl (t_X6_imbalanceOf_53 hX hY ih6 _ _ _ _ _ _ _ _ hf)
set_option maxHeartbeats 4000000 in
set_option maxRecDepth 100000 in
theorem c_X6_imbalanceOf {l : Launch} {D : va_G} {cI cJ cM cS : ClassId} {n0 : Nat} {a1 : Int32} {a2 : Int32} {a3 : Int32} {σ : z_S} {Q : Int32 → z_S → Prop} (hf : w_X6_imbalanceOf a1 a2 a3 σ Q) : z_ci l D cI cJ cM cS n0 yX6_imbalanceOf cX6_imbalanceOf 7 .int rm_X6_imbalanceOf 0 0 [.ref (n0 + 73), .int a1, .int a2, .int a3] σ Q := by
  refine z_ofi (by decide +kernel) (Nat.le_of_ble_eq_true rfl) (fun p e s m args below meth c hX hY => ?_)
  unfold w_X6_imbalanceOf at hf
  refine zt_L (L' := [(0, .ref (n0 + 73)), (1, .int a1), (2, .int a2), (3, .int a3)]) rfl ?_
  refine zt_iconst hX dX6_imbalanceOf_0 (v := (0 : Int32)) (by decide) ?_
  refine zt_istore (L' := [(4, .int (0 : Int32)), (0, .ref (n0 + 73)), (1, .int a1), (2, .int a2), (3, .int a3)]) hX dX6_imbalanceOf_1 (by decide) rfl ?_
  refine zt_iconst hX dX6_imbalanceOf_3 (v := (0 : Int32)) (by decide) ?_
  refine zt_istore (L' := [(5, .int (0 : Int32)), (4, .int (0 : Int32)), (0, .ref (n0 + 73)), (1, .int a1), (2, .int a2), (3, .int a3)]) hX dX6_imbalanceOf_4 (by decide) rfl ?_
  exact zt_sub [2, 3, 4, 5, 1, 0] rfl (t_X6_imbalanceOf_6 hX hY 400 _ _ _ _ _ _ hf)

theorem dX6_imbalance_0 : decode cX6_imbalance 0 = .ok (.aload_n 0, 1) := by decide +kernel
theorem dX6_imbalance_1 : decode cX6_imbalance 1 = .ok (.iload_n 1, 1) := by decide +kernel
theorem dX6_imbalance_2 : decode cX6_imbalance 2 = .ok (.invokevirtual 53, 3) := by decide +kernel
theorem dX6_imbalance_5 : decode cX6_imbalance 5 = .ok (.ifCond .ne 6, 3) := by decide +kernel
theorem dX6_imbalance_8 : decode cX6_imbalance 8 = .ok (.ldc 57, 2) := by decide +kernel
theorem dX6_imbalance_10 : decode cX6_imbalance 10 = .ok (.ireturn, 1) := by decide +kernel
theorem dX6_imbalance_11 : decode cX6_imbalance 11 = .ok (.aload_n 0, 1) := by decide +kernel
theorem dX6_imbalance_12 : decode cX6_imbalance 12 = .ok (.iload_n 1, 1) := by decide +kernel
theorem dX6_imbalance_13 : decode cX6_imbalance 13 = .ok (.invokevirtual 68, 3) := by decide +kernel
theorem dX6_imbalance_16 : decode cX6_imbalance 16 = .ok (.ifCond .ne 8, 3) := by decide +kernel
theorem dX6_imbalance_19 : decode cX6_imbalance 19 = .ok (.ldc 48, 2) := by decide +kernel
theorem dX6_imbalance_21 : decode cX6_imbalance 21 = .ok (.goto 11, 3) := by decide +kernel
theorem dX6_imbalance_24 : decode cX6_imbalance 24 = .ok (.aload_n 0, 1) := by decide +kernel
theorem dX6_imbalance_25 : decode cX6_imbalance 25 = .ok (.iload_n 1, 1) := by decide +kernel
theorem dX6_imbalance_26 : decode cX6_imbalance 26 = .ok (.iconst 0, 1) := by decide +kernel
theorem dX6_imbalance_27 : decode cX6_imbalance 27 = .ok (.bipush 8, 2) := by decide +kernel
theorem dX6_imbalance_29 : decode cX6_imbalance 29 = .ok (.invokevirtual 159, 3) := by decide +kernel
theorem dX6_imbalance_32 : decode cX6_imbalance 32 = .ok (.ireturn, 1) := by decide +kernel
abbrev rm_X6_imbalance : Room := { frames := 12, cells := 0, slots := 0, locals := 287 }
theorem hy_X6_imbalance : yX6_imbalance.cls ≠ "java/lang/invoke/MethodHandle" ∧ yX6_imbalance.cls ≠ "java/lang/invoke/VarHandle" ∧ (parseMethodDescriptor yX6_imbalance.desc).map (fun d => d.parameters.length) = some 1 := by decide +kernel
def w_X6_imbalance (a1 : Int32) (σ : z_S) (Q : Int32 → z_S → Prop) : Prop :=
  w_X6_isMeter a1 σ (fun r1 σ2 => if r1 = 0 then (Q (-2000000001 : Int32) σ2) else (w_X6_children a1 σ2 (fun r4 σ5 => if r4 = 0 then (Q (-2000000000 : Int32) σ5) else (w_X6_imbalanceOf a1 (0 : Int32) (8 : Int32) σ5 (fun r7 σ8 => Q r7 σ8)))))
set_option maxHeartbeats 4000000 in
set_option maxRecDepth 100000 in
theorem c_X6_imbalance {l : Launch} {D : va_G} {cI cJ cM cS : ClassId} {n0 : Nat} {a1 : Int32} {σ : z_S} {Q : Int32 → z_S → Prop} (hf : w_X6_imbalance a1 σ Q) : z_ci l D cI cJ cM cS n0 yX6_imbalance cX6_imbalance 2 .int rm_X6_imbalance 0 0 [.ref (n0 + 73), .int a1] σ Q := by
  refine z_ofi (by decide +kernel) (Nat.le_of_ble_eq_true rfl) (fun p e s m args below meth c hX hY => ?_)
  unfold w_X6_imbalance at hf
  refine zt_L (L' := [(0, .ref (n0 + 73)), (1, .int a1)]) rfl ?_
  refine zt_aload_n hX 0 dX6_imbalance_0 rfl rfl ?_
  refine zt_iload_n hX 1 dX6_imbalance_1 rfl rfl ?_
  refine zt_calliV hX hY (av := [.int a1]) (c_X6_isMeter hf) dX6_imbalance_2 rfl kw_698 kw_700 kw_20 kw_67 kw_701 ⟨rfl, rfl⟩ hy_X6_isMeter ⟨by decide, by decide⟩ ⟨by decide, by decide⟩ (Nat.le_of_ble_eq_true rfl) (by decide) (zE_73 _ _) rfl rfl (fun r1 σ2 hf => ?_)
  refine zt_if_ne hX dX6_imbalance_5 (tgt := 11) (by decide) (fun c3 => ?_) (fun c3 => ?_)
  · replace hf := z_neg hf c3
    refine zt_aload_n hX 0 dX6_imbalance_11 rfl rfl ?_
    refine zt_iload_n hX 1 dX6_imbalance_12 rfl rfl ?_
    refine zt_calliV hX hY (av := [.int a1]) (c_X6_children hf) dX6_imbalance_13 rfl kw_750 kw_752 kw_26 kw_67 kw_753 ⟨rfl, rfl⟩ hy_X6_children ⟨by decide, by decide⟩ ⟨by decide, by decide⟩ (Nat.le_of_ble_eq_true rfl) (by decide) (zE_73 _ _) rfl rfl (fun r4 σ5 hf => ?_)
    refine zt_if_ne hX dX6_imbalance_16 (tgt := 24) (by decide) (fun c6 => ?_) (fun c6 => ?_)
    · replace hf := z_neg hf c6
      refine zt_aload_n hX 0 dX6_imbalance_24 rfl rfl ?_
      refine zt_iload_n hX 1 dX6_imbalance_25 rfl rfl ?_
      refine zt_iconst hX dX6_imbalance_26 (v := (0 : Int32)) (by decide) ?_
      refine zt_bipush hX dX6_imbalance_27 (v := (8 : Int32)) (by decide) ?_
      refine zt_calliV hX hY (av := [.int a1, .int (0 : Int32), .int (8 : Int32)]) (c_X6_imbalanceOf hf) dX6_imbalance_29 rfl kw_934 kw_936 kw_51 kw_67 kw_937 ⟨rfl, rfl⟩ hy_X6_imbalanceOf ⟨by decide, by decide⟩ ⟨by decide, by decide⟩ (Nat.le_of_ble_eq_true rfl) (by decide) (zE_73 _ _) rfl rfl (fun r7 σ8 hf => ?_)
      exact zt_iret hX hY dX6_imbalance_32 hf
    · replace hf := z_pos hf c6
      refine zt_ldc hX dX6_imbalance_19 kw_715 ?_
      refine zt_goto hX dX6_imbalance_21 (tgt := 32) (by decide) ?_
      exact zt_iret hX hY dX6_imbalance_32 hf
  · replace hf := z_pos hf c3
    refine zt_ldc hX dX6_imbalance_8 kw_705 ?_
    exact zt_iret hX hY dX6_imbalance_10 hf

theorem dX6_imbalanceWith_0 : decode cX6_imbalanceWith 0 = .ok (.aload_n 0, 1) := by decide +kernel
theorem dX6_imbalanceWith_1 : decode cX6_imbalanceWith 1 = .ok (.iload_n 1, 1) := by decide +kernel
theorem dX6_imbalanceWith_2 : decode cX6_imbalanceWith 2 = .ok (.invokevirtual 53, 3) := by decide +kernel
theorem dX6_imbalanceWith_5 : decode cX6_imbalanceWith 5 = .ok (.ifCond .eq 12, 3) := by decide +kernel
theorem dX6_imbalanceWith_8 : decode cX6_imbalanceWith 8 = .ok (.aload_n 0, 1) := by decide +kernel
theorem dX6_imbalanceWith_9 : decode cX6_imbalanceWith 9 = .ok (.iload_n 1, 1) := by decide +kernel
theorem dX6_imbalanceWith_10 : decode cX6_imbalanceWith 10 = .ok (.iload_n 2, 1) := by decide +kernel
theorem dX6_imbalanceWith_11 : decode cX6_imbalanceWith 11 = .ok (.invokevirtual 75, 3) := by decide +kernel
theorem dX6_imbalanceWith_14 : decode cX6_imbalanceWith 14 = .ok (.goto 5, 3) := by decide +kernel
theorem dX6_imbalanceWith_17 : decode cX6_imbalanceWith 17 = .ok (.ldc 57, 2) := by decide +kernel
theorem dX6_imbalanceWith_19 : decode cX6_imbalanceWith 19 = .ok (.istore 4, 2) := by decide +kernel
theorem dX6_imbalanceWith_21 : decode cX6_imbalanceWith 21 = .ok (.iload 4, 2) := by decide +kernel
theorem dX6_imbalanceWith_23 : decode cX6_imbalanceWith 23 = .ok (.ldc 57, 2) := by decide +kernel
theorem dX6_imbalanceWith_25 : decode cX6_imbalanceWith 25 = .ok (.if_icmp .ne 6, 3) := by decide +kernel
theorem dX6_imbalanceWith_28 : decode cX6_imbalanceWith 28 = .ok (.ldc 57, 2) := by decide +kernel
theorem dX6_imbalanceWith_30 : decode cX6_imbalanceWith 30 = .ok (.ireturn, 1) := by decide +kernel
theorem dX6_imbalanceWith_31 : decode cX6_imbalanceWith 31 = .ok (.iload_n 3, 1) := by decide +kernel
theorem dX6_imbalanceWith_32 : decode cX6_imbalanceWith 32 = .ok (.iconst 0, 1) := by decide +kernel
theorem dX6_imbalanceWith_33 : decode cX6_imbalanceWith 33 = .ok (.bipush 7, 2) := by decide +kernel
theorem dX6_imbalanceWith_35 : decode cX6_imbalanceWith 35 = .ok (.invokestatic 40, 3) := by decide +kernel
theorem dX6_imbalanceWith_38 : decode cX6_imbalanceWith 38 = .ok (.ifCond .eq 14, 3) := by decide +kernel
theorem dX6_imbalanceWith_41 : decode cX6_imbalanceWith 41 = .ok (.aload_n 0, 1) := by decide +kernel
theorem dX6_imbalanceWith_42 : decode cX6_imbalanceWith 42 = .ok (.iload_n 1, 1) := by decide +kernel
theorem dX6_imbalanceWith_43 : decode cX6_imbalanceWith 43 = .ok (.iload 4, 2) := by decide +kernel
theorem dX6_imbalanceWith_45 : decode cX6_imbalanceWith 45 = .ok (.iload_n 3, 1) := by decide +kernel
theorem dX6_imbalanceWith_46 : decode cX6_imbalanceWith 46 = .ok (.invokevirtual 159, 3) := by decide +kernel
theorem dX6_imbalanceWith_49 : decode cX6_imbalanceWith 49 = .ok (.goto 5, 3) := by decide +kernel
theorem dX6_imbalanceWith_52 : decode cX6_imbalanceWith 52 = .ok (.ldc 66, 2) := by decide +kernel
theorem dX6_imbalanceWith_54 : decode cX6_imbalanceWith 54 = .ok (.ireturn, 1) := by decide +kernel
abbrev rm_X6_imbalanceWith : Room := { frames := 12, cells := 0, slots := 0, locals := 287 }
theorem hy_X6_imbalanceWith : yX6_imbalanceWith.cls ≠ "java/lang/invoke/MethodHandle" ∧ yX6_imbalanceWith.cls ≠ "java/lang/invoke/VarHandle" ∧ (parseMethodDescriptor yX6_imbalanceWith.desc).map (fun d => d.parameters.length) = some 3 := by decide +kernel
def w_X6_imbalanceWith_19  (Q : Int32 → z_S → Prop) (x1 : Int32) (x3 : Int32) (s0 : Int32) (σ : z_S) : Prop :=
  if s0 = (-2000000001 : Int32) then (Q (-2000000001 : Int32) σ) else (w_X6_in x3 (0 : Int32) (7 : Int32) σ (fun r5 σ6 => if r5 = 0 then (Q (-2000000002 : Int32) σ6) else (w_X6_imbalanceOf x1 s0 x3 σ6 (fun r8 σ9 => Q r8 σ9))))
def w_X6_imbalanceWith (a1 : Int32) (a2 : Int32) (a3 : Int32) (σ : z_S) (Q : Int32 → z_S → Prop) : Prop :=
  w_X6_isMeter a1 σ (fun r1 σ2 => if r1 = 0 then (w_X6_imbalanceWith_19 Q a1 a3 (-2000000001 : Int32) σ2) else (w_X6_childOf a1 a2 σ2 (fun r10 σ11 => w_X6_imbalanceWith_19 Q a1 a3 r10 σ11)))
set_option maxHeartbeats 4000000 in
set_option maxRecDepth 100000 in
theorem t_X6_imbalanceWith_19 {l : Launch} {D : va_G} {cI cJ cM cS : ClassId} {n0 : Nat} {p : Program} {e : Env} {s : State} {m : MethodId} {args : Array Value} {below : List Frame} {meth : Method} {c : Code}  {Q : Int32 → z_S → Prop} (hX : z_X D cI cJ cM cS p s m args c cX6_imbalanceWith 5 yX6_imbalanceWith.cls) (hY : z_Y s meth (some .int))  (x1 : Int32) (x3 : Int32) (s0 : Int32) (σ : z_S) (hf : w_X6_imbalanceWith_19  Q x1 x3 s0 σ) : z_t D cI cJ cM cS n0 p l e rm_X6_imbalanceWith s m args below meth c 5 (MQ below (va_Qi Q (fun u t => z_Bq D cI cJ cM cS n0 u t) (z_Ab n0)) args s 0 0 (z_Ab n0)) 0 0 19 [(0, .ref (n0 + 73)), (1, .int x1), (3, .int x3)] [.int s0] σ := by
  unfold w_X6_imbalanceWith_19 at hf
  refine zt_istore (L' := [(4, .int s0), (0, .ref (n0 + 73)), (1, .int x1), (3, .int x3)]) hX dX6_imbalanceWith_19 (by decide) rfl ?_
  refine zt_iload hX 0 dX6_imbalanceWith_21 rfl ?_
  refine zt_ldc hX dX6_imbalanceWith_23 kw_705 ?_
  refine zt_icmp_ne hX dX6_imbalanceWith_25 (tgt := 31) (by decide) (fun c4 => ?_) (fun c4 => ?_)
  · replace hf := z_neg hf c4
    refine zt_iload_n hX 3 dX6_imbalanceWith_31 rfl rfl ?_
    refine zt_iconst hX dX6_imbalanceWith_32 (v := (0 : Int32)) (by decide) ?_
    refine zt_bipush hX dX6_imbalanceWith_33 (v := (7 : Int32)) (by decide) ?_
    refine zt_calliS hX hY (av := [.int x3, .int (0 : Int32), .int (7 : Int32)]) (c_X6_in hf) dX6_imbalanceWith_35 rfl kw_702 kw_703 kw_67 kw_704 ⟨rfl, rfl⟩ hy_X6_in ⟨by decide, by decide⟩ ⟨by decide, by decide⟩ (Nat.le_of_ble_eq_true rfl) (fun r5 σ6 hf => ?_)
    refine zt_if_eq hX dX6_imbalanceWith_38 (tgt := 52) (by decide) (fun c7 => ?_) (fun c7 => ?_)
    · replace hf := z_pos hf c7
      refine zt_ldc hX dX6_imbalanceWith_52 kw_728 ?_
      exact zt_iret hX hY dX6_imbalanceWith_54 hf
    · replace hf := z_neg hf c7
      refine zt_aload_n hX 1 dX6_imbalanceWith_41 rfl rfl ?_
      refine zt_iload_n hX 2 dX6_imbalanceWith_42 rfl rfl ?_
      refine zt_iload hX 0 dX6_imbalanceWith_43 rfl ?_
      refine zt_iload_n hX 3 dX6_imbalanceWith_45 rfl rfl ?_
      refine zt_calliV hX hY (av := [.int x1, .int s0, .int x3]) (c_X6_imbalanceOf hf) dX6_imbalanceWith_46 rfl kw_934 kw_936 kw_51 kw_67 kw_937 ⟨rfl, rfl⟩ hy_X6_imbalanceOf ⟨by decide, by decide⟩ ⟨by decide, by decide⟩ (Nat.le_of_ble_eq_true rfl) (by decide) (zE_73 _ _) rfl rfl (fun r8 σ9 hf => ?_)
      refine zt_goto hX dX6_imbalanceWith_49 (tgt := 54) (by decide) ?_
      exact zt_iret hX hY dX6_imbalanceWith_54 hf
  · replace hf := z_pos hf c4
    refine zt_ldc hX dX6_imbalanceWith_28 kw_705 ?_
    exact zt_iret hX hY dX6_imbalanceWith_30 hf
set_option maxHeartbeats 4000000 in
set_option maxRecDepth 100000 in
theorem c_X6_imbalanceWith {l : Launch} {D : va_G} {cI cJ cM cS : ClassId} {n0 : Nat} {a1 : Int32} {a2 : Int32} {a3 : Int32} {σ : z_S} {Q : Int32 → z_S → Prop} (hf : w_X6_imbalanceWith a1 a2 a3 σ Q) : z_ci l D cI cJ cM cS n0 yX6_imbalanceWith cX6_imbalanceWith 5 .int rm_X6_imbalanceWith 0 0 [.ref (n0 + 73), .int a1, .int a2, .int a3] σ Q := by
  refine z_ofi (by decide +kernel) (Nat.le_of_ble_eq_true rfl) (fun p e s m args below meth c hX hY => ?_)
  unfold w_X6_imbalanceWith at hf
  refine zt_L (L' := [(0, .ref (n0 + 73)), (1, .int a1), (2, .int a2), (3, .int a3)]) rfl ?_
  refine zt_aload_n hX 0 dX6_imbalanceWith_0 rfl rfl ?_
  refine zt_iload_n hX 1 dX6_imbalanceWith_1 rfl rfl ?_
  refine zt_calliV hX hY (av := [.int a1]) (c_X6_isMeter hf) dX6_imbalanceWith_2 rfl kw_698 kw_700 kw_20 kw_67 kw_701 ⟨rfl, rfl⟩ hy_X6_isMeter ⟨by decide, by decide⟩ ⟨by decide, by decide⟩ (Nat.le_of_ble_eq_true rfl) (by decide) (zE_73 _ _) rfl rfl (fun r1 σ2 hf => ?_)
  refine zt_if_eq hX dX6_imbalanceWith_5 (tgt := 17) (by decide) (fun c3 => ?_) (fun c3 => ?_)
  · replace hf := z_pos hf c3
    refine zt_ldc hX dX6_imbalanceWith_17 kw_705 ?_
    exact zt_sub [0, 1, 3] rfl (t_X6_imbalanceWith_19 hX hY _ _ _ _ hf)
  · replace hf := z_neg hf c3
    refine zt_aload_n hX 0 dX6_imbalanceWith_8 rfl rfl ?_
    refine zt_iload_n hX 1 dX6_imbalanceWith_9 rfl rfl ?_
    refine zt_iload_n hX 2 dX6_imbalanceWith_10 rfl rfl ?_
    refine zt_calliV hX hY (av := [.int a1, .int a2]) (c_X6_childOf hf) dX6_imbalanceWith_11 rfl kw_762 kw_764 kw_28 kw_67 kw_765 ⟨rfl, rfl⟩ hy_X6_childOf ⟨by decide, by decide⟩ ⟨by decide, by decide⟩ (Nat.le_of_ble_eq_true rfl) (by decide) (zE_73 _ _) rfl rfl (fun r10 σ11 hf => ?_)
    refine zt_goto hX dX6_imbalanceWith_14 (tgt := 19) (by decide) ?_
    exact zt_sub [0, 1, 3] rfl (t_X6_imbalanceWith_19 hX hY _ _ _ _ hf)

theorem dX6_suspect_0 : decode cX6_suspect 0 = .ok (.aload_n 0, 1) := by decide +kernel
theorem dX6_suspect_1 : decode cX6_suspect 1 = .ok (.iload_n 1, 1) := by decide +kernel
theorem dX6_suspect_2 : decode cX6_suspect 2 = .ok (.invokevirtual 53, 3) := by decide +kernel
theorem dX6_suspect_5 : decode cX6_suspect 5 = .ok (.ifCond .ne 6, 3) := by decide +kernel
theorem dX6_suspect_8 : decode cX6_suspect 8 = .ok (.ldc 57, 2) := by decide +kernel
theorem dX6_suspect_10 : decode cX6_suspect 10 = .ok (.ireturn, 1) := by decide +kernel
theorem dX6_suspect_11 : decode cX6_suspect 11 = .ok (.ldc 48, 2) := by decide +kernel
theorem dX6_suspect_13 : decode cX6_suspect 13 = .ok (.istore_n 2, 1) := by decide +kernel
theorem dX6_suspect_14 : decode cX6_suspect 14 = .ok (.iconst 0, 1) := by decide +kernel
theorem dX6_suspect_15 : decode cX6_suspect 15 = .ok (.istore_n 3, 1) := by decide +kernel
theorem dX6_suspect_16 : decode cX6_suspect 16 = .ok (.iconst 1, 1) := by decide +kernel
theorem dX6_suspect_17 : decode cX6_suspect 17 = .ok (.istore 4, 2) := by decide +kernel
theorem dX6_suspect_19 : decode cX6_suspect 19 = .ok (.iload 4, 2) := by decide +kernel
theorem dX6_suspect_21 : decode cX6_suspect 21 = .ok (.aload_n 0, 1) := by decide +kernel
theorem dX6_suspect_22 : decode cX6_suspect 22 = .ok (.getfield 7, 3) := by decide +kernel
theorem dX6_suspect_25 : decode cX6_suspect 25 = .ok (.iconst 0, 1) := by decide +kernel
theorem dX6_suspect_26 : decode cX6_suspect 26 = .ok (.iaload, 1) := by decide +kernel
theorem dX6_suspect_27 : decode cX6_suspect 27 = .ok (.if_icmp .ge 96, 3) := by decide +kernel
theorem dX6_suspect_30 : decode cX6_suspect 30 = .ok (.iconst 0, 1) := by decide +kernel
theorem dX6_suspect_31 : decode cX6_suspect 31 = .ok (.istore 5, 2) := by decide +kernel
theorem dX6_suspect_33 : decode cX6_suspect 33 = .ok (.iload 5, 2) := by decide +kernel
theorem dX6_suspect_35 : decode cX6_suspect 35 = .ok (.bipush 8, 2) := by decide +kernel
theorem dX6_suspect_37 : decode cX6_suspect 37 = .ok (.if_icmp .ge 80, 3) := by decide +kernel
theorem dX6_suspect_40 : decode cX6_suspect 40 = .ok (.aload_n 0, 1) := by decide +kernel
theorem dX6_suspect_41 : decode cX6_suspect 41 = .ok (.iload 4, 2) := by decide +kernel
theorem dX6_suspect_43 : decode cX6_suspect 43 = .ok (.iconst 0, 1) := by decide +kernel
theorem dX6_suspect_44 : decode cX6_suspect 44 = .ok (.invokevirtual 44, 3) := by decide +kernel
theorem dX6_suspect_47 : decode cX6_suspect 47 = .ok (.iload_n 1, 1) := by decide +kernel
theorem dX6_suspect_48 : decode cX6_suspect 48 = .ok (.if_icmp .ne 69, 3) := by decide +kernel
theorem dX6_suspect_51 : decode cX6_suspect 51 = .ok (.aload_n 0, 1) := by decide +kernel
theorem dX6_suspect_52 : decode cX6_suspect 52 = .ok (.iload_n 1, 1) := by decide +kernel
theorem dX6_suspect_53 : decode cX6_suspect 53 = .ok (.iload 4, 2) := by decide +kernel
theorem dX6_suspect_55 : decode cX6_suspect 55 = .ok (.iload 5, 2) := by decide +kernel
theorem dX6_suspect_57 : decode cX6_suspect 57 = .ok (.invokevirtual 159, 3) := by decide +kernel
theorem dX6_suspect_60 : decode cX6_suspect 60 = .ok (.istore 6, 2) := by decide +kernel
theorem dX6_suspect_62 : decode cX6_suspect 62 = .ok (.iload_n 2, 1) := by decide +kernel
theorem dX6_suspect_63 : decode cX6_suspect 63 = .ok (.ldc 48, 2) := by decide +kernel
theorem dX6_suspect_65 : decode cX6_suspect 65 = .ok (.if_icmp .eq 9, 3) := by decide +kernel
theorem dX6_suspect_68 : decode cX6_suspect 68 = .ok (.iload 6, 2) := by decide +kernel
theorem dX6_suspect_70 : decode cX6_suspect 70 = .ok (.iload_n 3, 1) := by decide +kernel
theorem dX6_suspect_71 : decode cX6_suspect 71 = .ok (.if_icmp .ge 7, 3) := by decide +kernel
theorem dX6_suspect_74 : decode cX6_suspect 74 = .ok (.iconst 1, 1) := by decide +kernel
theorem dX6_suspect_75 : decode cX6_suspect 75 = .ok (.goto 4, 3) := by decide +kernel
theorem dX6_suspect_78 : decode cX6_suspect 78 = .ok (.iconst 0, 1) := by decide +kernel
theorem dX6_suspect_79 : decode cX6_suspect 79 = .ok (.istore 7, 2) := by decide +kernel
theorem dX6_suspect_81 : decode cX6_suspect 81 = .ok (.iload 7, 2) := by decide +kernel
theorem dX6_suspect_83 : decode cX6_suspect 83 = .ok (.ifCond .eq 14, 3) := by decide +kernel
theorem dX6_suspect_86 : decode cX6_suspect 86 = .ok (.bipush 10, 2) := by decide +kernel
theorem dX6_suspect_88 : decode cX6_suspect 88 = .ok (.iload 4, 2) := by decide +kernel
theorem dX6_suspect_90 : decode cX6_suspect 90 = .ok (.imul, 1) := by decide +kernel
theorem dX6_suspect_91 : decode cX6_suspect 91 = .ok (.iload 5, 2) := by decide +kernel
theorem dX6_suspect_93 : decode cX6_suspect 93 = .ok (.iadd, 1) := by decide +kernel
theorem dX6_suspect_94 : decode cX6_suspect 94 = .ok (.goto 4, 3) := by decide +kernel
theorem dX6_suspect_97 : decode cX6_suspect 97 = .ok (.iload_n 2, 1) := by decide +kernel
theorem dX6_suspect_98 : decode cX6_suspect 98 = .ok (.istore_n 2, 1) := by decide +kernel
theorem dX6_suspect_99 : decode cX6_suspect 99 = .ok (.iload 7, 2) := by decide +kernel
theorem dX6_suspect_101 : decode cX6_suspect 101 = .ok (.ifCond .eq 8, 3) := by decide +kernel
theorem dX6_suspect_104 : decode cX6_suspect 104 = .ok (.iload 6, 2) := by decide +kernel
theorem dX6_suspect_106 : decode cX6_suspect 106 = .ok (.goto 4, 3) := by decide +kernel
theorem dX6_suspect_109 : decode cX6_suspect 109 = .ok (.iload_n 3, 1) := by decide +kernel
theorem dX6_suspect_110 : decode cX6_suspect 110 = .ok (.istore_n 3, 1) := by decide +kernel
theorem dX6_suspect_111 : decode cX6_suspect 111 = .ok (.iinc 5 1, 3) := by decide +kernel
theorem dX6_suspect_114 : decode cX6_suspect 114 = .ok (.goto (-81), 3) := by decide +kernel
theorem dX6_suspect_117 : decode cX6_suspect 117 = .ok (.iinc 4 1, 3) := by decide +kernel
theorem dX6_suspect_120 : decode cX6_suspect 120 = .ok (.goto (-101), 3) := by decide +kernel
theorem dX6_suspect_123 : decode cX6_suspect 123 = .ok (.iload_n 2, 1) := by decide +kernel
theorem dX6_suspect_124 : decode cX6_suspect 124 = .ok (.ldc 48, 2) := by decide +kernel
theorem dX6_suspect_126 : decode cX6_suspect 126 = .ok (.if_icmp .eq 26, 3) := by decide +kernel
theorem dX6_suspect_129 : decode cX6_suspect 129 = .ok (.ldc2_w 162, 3) := by decide +kernel
theorem dX6_suspect_132 : decode cX6_suspect 132 = .ok (.iload_n 3, 1) := by decide +kernel
theorem dX6_suspect_133 : decode cX6_suspect 133 = .ok (.i2l, 1) := by decide +kernel
theorem dX6_suspect_134 : decode cX6_suspect 134 = .ok (.lmul, 1) := by decide +kernel
theorem dX6_suspect_135 : decode cX6_suspect 135 = .ok (.aload_n 0, 1) := by decide +kernel
theorem dX6_suspect_136 : decode cX6_suspect 136 = .ok (.iload_n 1, 1) := by decide +kernel
theorem dX6_suspect_137 : decode cX6_suspect 137 = .ok (.iconst 0, 1) := by decide +kernel
theorem dX6_suspect_138 : decode cX6_suspect 138 = .ok (.bipush 8, 2) := by decide +kernel
theorem dX6_suspect_140 : decode cX6_suspect 140 = .ok (.invokevirtual 159, 3) := by decide +kernel
theorem dX6_suspect_143 : decode cX6_suspect 143 = .ok (.i2l, 1) := by decide +kernel
theorem dX6_suspect_144 : decode cX6_suspect 144 = .ok (.lcmp, 1) := by decide +kernel
theorem dX6_suspect_145 : decode cX6_suspect 145 = .ok (.ifCond .ge 7, 3) := by decide +kernel
theorem dX6_suspect_148 : decode cX6_suspect 148 = .ok (.iload_n 2, 1) := by decide +kernel
theorem dX6_suspect_149 : decode cX6_suspect 149 = .ok (.goto 5, 3) := by decide +kernel
theorem dX6_suspect_152 : decode cX6_suspect 152 = .ok (.ldc 48, 2) := by decide +kernel
theorem dX6_suspect_154 : decode cX6_suspect 154 = .ok (.ireturn, 1) := by decide +kernel
abbrev rm_X6_suspect : Room := { frames := 12, cells := 0, slots := 0, locals := 287 }
theorem hy_X6_suspect : yX6_suspect.cls ≠ "java/lang/invoke/MethodHandle" ∧ yX6_suspect.cls ≠ "java/lang/invoke/VarHandle" ∧ (parseMethodDescriptor yX6_suspect.desc).map (fun d => d.parameters.length) = some 1 := by decide +kernel
def w_X6_suspect_117 (k19 : Int32 → Int32 → Int32 → Int32 → z_S → Prop) (Q : Int32 → z_S → Prop) (x1 : Int32) (x2 : Int32) (x3 : Int32) (x4 : Int32) (σ : z_S) : Prop :=
  ∀ y11 : Int32, y11 = (x4 + (1 : Int32)) → k19 x1 x2 x3 y11 σ
def w_X6_suspect_110 (k19 : Int32 → Int32 → Int32 → Int32 → z_S → Prop) (k33 : Int32 → Int32 → Int32 → Int32 → Int32 → z_S → Prop) (Q : Int32 → z_S → Prop) (x1 : Int32) (x2 : Int32) (x4 : Int32) (x5 : Int32) (s0 : Int32) (σ : z_S) : Prop :=
  ∀ y20 : Int32, y20 = (x5 + (1 : Int32)) → k33 x1 x2 s0 x4 y20 σ
def w_X6_suspect_98 (k19 : Int32 → Int32 → Int32 → Int32 → z_S → Prop) (k33 : Int32 → Int32 → Int32 → Int32 → Int32 → z_S → Prop) (Q : Int32 → z_S → Prop) (x1 : Int32) (x3 : Int32) (x4 : Int32) (x5 : Int32) (x6 : Int32) (x7 : Int32) (s0 : Int32) (σ : z_S) : Prop :=
  if x7 = 0 then (w_X6_suspect_110 k19 k33 Q x1 s0 x4 x5 x3 σ) else (w_X6_suspect_110 k19 k33 Q x1 s0 x4 x5 x6 σ)
def w_X6_suspect_79 (k19 : Int32 → Int32 → Int32 → Int32 → z_S → Prop) (k33 : Int32 → Int32 → Int32 → Int32 → Int32 → z_S → Prop) (Q : Int32 → z_S → Prop) (x1 : Int32) (x2 : Int32) (x3 : Int32) (x4 : Int32) (x5 : Int32) (x6 : Int32) (s0 : Int32) (σ : z_S) : Prop :=
  if s0 = 0 then (w_X6_suspect_98 k19 k33 Q x1 x3 x4 x5 x6 s0 x2 σ) else (w_X6_suspect_98 k19 k33 Q x1 x3 x4 x5 x6 s0 (((10 : Int32) * x4) + x5) σ)
def w_X6_suspect_74 (k19 : Int32 → Int32 → Int32 → Int32 → z_S → Prop) (k33 : Int32 → Int32 → Int32 → Int32 → Int32 → z_S → Prop) (Q : Int32 → z_S → Prop) (x1 : Int32) (x2 : Int32) (x3 : Int32) (x4 : Int32) (x5 : Int32) (x6 : Int32) (σ : z_S) : Prop :=
  w_X6_suspect_79 k19 k33 Q x1 x2 x3 x4 x5 x6 (1 : Int32) σ
def wb_X6_suspect_33 (k19 : Int32 → Int32 → Int32 → Int32 → z_S → Prop) (Q : Int32 → z_S → Prop) (k33 : Int32 → Int32 → Int32 → Int32 → Int32 → z_S → Prop) (x1 : Int32) (x2 : Int32) (x3 : Int32) (x4 : Int32) (x5 : Int32) (σ : z_S) : Prop :=
  if (8 : Int32) ≤ x5 then (w_X6_suspect_117 k19 Q x1 x2 x3 x4 σ) else (w_X6_of x4 (0 : Int32) σ (fun r12 σ13 => if r12 = x1 then (w_X6_imbalanceOf x1 x4 x5 σ13 (fun r15 σ16 => if x2 = (-2000000000 : Int32) then (w_X6_suspect_74 k19 k33 Q x1 x2 x3 x4 x5 r15 σ16) else (if x3 ≤ r15 then (w_X6_suspect_79 k19 k33 Q x1 x2 x3 x4 x5 r15 (0 : Int32) σ16) else (w_X6_suspect_74 k19 k33 Q x1 x2 x3 x4 x5 r15 σ16)))) else (w_X6_suspect_117 k19 Q x1 x2 x3 x4 σ13)))
def w_X6_suspect_33 (k19 : Int32 → Int32 → Int32 → Int32 → z_S → Prop) (Q : Int32 → z_S → Prop) : Nat → Int32 → Int32 → Int32 → Int32 → Int32 → z_S → Prop
  | 0 => fun _ _ _ _ _ _ => False
  | n + 1 => wb_X6_suspect_33 k19 Q (w_X6_suspect_33 k19 Q n)
def wb_X6_suspect_19  (Q : Int32 → z_S → Prop) (k19 : Int32 → Int32 → Int32 → Int32 → z_S → Prop) (x1 : Int32) (x2 : Int32) (x3 : Int32) (x4 : Int32) (σ : z_S) : Prop :=
  vp_in (0 : Int32) 1584 ∧ if (zg_i σ 74 (0 : Int32).toNatClampNeg) ≤ x4 then (if x2 = (-2000000000 : Int32) then (Q (-2000000000 : Int32) σ) else (w_X6_imbalanceOf x1 (0 : Int32) (8 : Int32) σ (fun r7 σ8 => if 0 ≤ (lg_cmp ((4 : Int64) * x3.toInt64) r7.toInt64) then (Q (-2000000000 : Int32) σ8) else (Q x2 σ8)))) else (w_X6_suspect_33 k19 Q 400 x1 x2 x3 x4 (0 : Int32) σ)
def w_X6_suspect_19  (Q : Int32 → z_S → Prop) : Nat → Int32 → Int32 → Int32 → Int32 → z_S → Prop
  | 0 => fun _ _ _ _ _ => False
  | n + 1 => wb_X6_suspect_19  Q (w_X6_suspect_19  Q n)
def w_X6_suspect (a1 : Int32) (σ : z_S) (Q : Int32 → z_S → Prop) : Prop :=
  w_X6_isMeter a1 σ (fun r1 σ2 => if r1 = 0 then (Q (-2000000001 : Int32) σ2) else (w_X6_suspect_19 Q 400 a1 (-2000000000 : Int32) (0 : Int32) (1 : Int32) σ2))
set_option maxHeartbeats 4000000 in
set_option maxRecDepth 100000 in
theorem t_X6_suspect_117 {l : Launch} {D : va_G} {cI cJ cM cS : ClassId} {n0 : Nat} {p : Program} {e : Env} {s : State} {m : MethodId} {args : Array Value} {below : List Frame} {meth : Method} {c : Code} {k19 : Int32 → Int32 → Int32 → Int32 → z_S → Prop} {Q : Int32 → z_S → Prop} (hX : z_X D cI cJ cM cS p s m args c cX6_suspect 8 yX6_suspect.cls) (hY : z_Y s meth (some .int)) (hk19 : ∀ (x1 : Int32) (x2 : Int32) (x3 : Int32) (x4 : Int32) (σ : z_S), k19 x1 x2 x3 x4 σ → z_t D cI cJ cM cS n0 p l e rm_X6_suspect s m args below meth c 8 (MQ below (va_Qi Q (fun u t => z_Bq D cI cJ cM cS n0 u t) (z_Ab n0)) args s 0 0 (z_Ab n0)) 0 0 19 [(0, .ref (n0 + 73)), (1, .int x1), (2, .int x2), (3, .int x3), (4, .int x4)] [] σ) (x1 : Int32) (x2 : Int32) (x3 : Int32) (x4 : Int32) (σ : z_S) (hf : w_X6_suspect_117 k19 Q x1 x2 x3 x4 σ) : z_t D cI cJ cM cS n0 p l e rm_X6_suspect s m args below meth c 8 (MQ below (va_Qi Q (fun u t => z_Bq D cI cJ cM cS n0 u t) (z_Ab n0)) args s 0 0 (z_Ab n0)) 0 0 117 [(0, .ref (n0 + 73)), (1, .int x1), (2, .int x2), (3, .int x3), (4, .int x4)] [] σ := by
  unfold w_X6_suspect_117 at hf
  obtain ⟨y11, e11⟩ : ∃ y : Int32, y = (x4 + (1 : Int32)) := ⟨_, rfl⟩
  replace hf := hf y11 e11
  refine zt_iinc (L' := [(4, .int y11), (0, .ref (n0 + 73)), (1, .int x1), (2, .int x2), (3, .int x3)]) hX 4 dX6_suspect_117 rfl (v := y11) (by rw [e11]; rfl) (by decide) rfl ?_
  refine zt_goto hX dX6_suspect_120 (tgt := 19) (by decide) ?_
  exact zt_sub [1, 2, 3, 4, 0] rfl (hk19 _ _ _ _ _ hf)
set_option maxHeartbeats 4000000 in
set_option maxRecDepth 100000 in
theorem t_X6_suspect_110 {l : Launch} {D : va_G} {cI cJ cM cS : ClassId} {n0 : Nat} {p : Program} {e : Env} {s : State} {m : MethodId} {args : Array Value} {below : List Frame} {meth : Method} {c : Code} {k19 : Int32 → Int32 → Int32 → Int32 → z_S → Prop} {k33 : Int32 → Int32 → Int32 → Int32 → Int32 → z_S → Prop} {Q : Int32 → z_S → Prop} (hX : z_X D cI cJ cM cS p s m args c cX6_suspect 8 yX6_suspect.cls) (hY : z_Y s meth (some .int)) (hk19 : ∀ (x1 : Int32) (x2 : Int32) (x3 : Int32) (x4 : Int32) (σ : z_S), k19 x1 x2 x3 x4 σ → z_t D cI cJ cM cS n0 p l e rm_X6_suspect s m args below meth c 8 (MQ below (va_Qi Q (fun u t => z_Bq D cI cJ cM cS n0 u t) (z_Ab n0)) args s 0 0 (z_Ab n0)) 0 0 19 [(0, .ref (n0 + 73)), (1, .int x1), (2, .int x2), (3, .int x3), (4, .int x4)] [] σ) (hk33 : ∀ (x1 : Int32) (x2 : Int32) (x3 : Int32) (x4 : Int32) (x5 : Int32) (σ : z_S), k33 x1 x2 x3 x4 x5 σ → z_t D cI cJ cM cS n0 p l e rm_X6_suspect s m args below meth c 8 (MQ below (va_Qi Q (fun u t => z_Bq D cI cJ cM cS n0 u t) (z_Ab n0)) args s 0 0 (z_Ab n0)) 0 0 33 [(0, .ref (n0 + 73)), (1, .int x1), (2, .int x2), (3, .int x3), (4, .int x4), (5, .int x5)] [] σ) (x1 : Int32) (x2 : Int32) (x4 : Int32) (x5 : Int32) (s0 : Int32) (σ : z_S) (hf : w_X6_suspect_110 k19 k33 Q x1 x2 x4 x5 s0 σ) : z_t D cI cJ cM cS n0 p l e rm_X6_suspect s m args below meth c 8 (MQ below (va_Qi Q (fun u t => z_Bq D cI cJ cM cS n0 u t) (z_Ab n0)) args s 0 0 (z_Ab n0)) 0 0 110 [(0, .ref (n0 + 73)), (1, .int x1), (2, .int x2), (4, .int x4), (5, .int x5)] [.int s0] σ := by
  unfold w_X6_suspect_110 at hf
  refine zt_istore_n (L' := [(3, .int s0), (0, .ref (n0 + 73)), (1, .int x1), (2, .int x2), (4, .int x4), (5, .int x5)]) hX dX6_suspect_110 rfl (by decide) rfl ?_
  obtain ⟨y20, e20⟩ : ∃ y : Int32, y = (x5 + (1 : Int32)) := ⟨_, rfl⟩
  replace hf := hf y20 e20
  refine zt_iinc (L' := [(5, .int y20), (3, .int s0), (0, .ref (n0 + 73)), (1, .int x1), (2, .int x2), (4, .int x4)]) hX 5 dX6_suspect_111 rfl (v := y20) (by rw [e20]; rfl) (by decide) rfl ?_
  refine zt_goto hX dX6_suspect_114 (tgt := 33) (by decide) ?_
  exact zt_sub [2, 3, 4, 1, 5, 0] rfl (hk33 _ _ _ _ _ _ hf)
set_option maxHeartbeats 4000000 in
set_option maxRecDepth 100000 in
theorem t_X6_suspect_98 {l : Launch} {D : va_G} {cI cJ cM cS : ClassId} {n0 : Nat} {p : Program} {e : Env} {s : State} {m : MethodId} {args : Array Value} {below : List Frame} {meth : Method} {c : Code} {k19 : Int32 → Int32 → Int32 → Int32 → z_S → Prop} {k33 : Int32 → Int32 → Int32 → Int32 → Int32 → z_S → Prop} {Q : Int32 → z_S → Prop} (hX : z_X D cI cJ cM cS p s m args c cX6_suspect 8 yX6_suspect.cls) (hY : z_Y s meth (some .int)) (hk19 : ∀ (x1 : Int32) (x2 : Int32) (x3 : Int32) (x4 : Int32) (σ : z_S), k19 x1 x2 x3 x4 σ → z_t D cI cJ cM cS n0 p l e rm_X6_suspect s m args below meth c 8 (MQ below (va_Qi Q (fun u t => z_Bq D cI cJ cM cS n0 u t) (z_Ab n0)) args s 0 0 (z_Ab n0)) 0 0 19 [(0, .ref (n0 + 73)), (1, .int x1), (2, .int x2), (3, .int x3), (4, .int x4)] [] σ) (hk33 : ∀ (x1 : Int32) (x2 : Int32) (x3 : Int32) (x4 : Int32) (x5 : Int32) (σ : z_S), k33 x1 x2 x3 x4 x5 σ → z_t D cI cJ cM cS n0 p l e rm_X6_suspect s m args below meth c 8 (MQ below (va_Qi Q (fun u t => z_Bq D cI cJ cM cS n0 u t) (z_Ab n0)) args s 0 0 (z_Ab n0)) 0 0 33 [(0, .ref (n0 + 73)), (1, .int x1), (2, .int x2), (3, .int x3), (4, .int x4), (5, .int x5)] [] σ) (x1 : Int32) (x3 : Int32) (x4 : Int32) (x5 : Int32) (x6 : Int32) (x7 : Int32) (s0 : Int32) (σ : z_S) (hf : w_X6_suspect_98 k19 k33 Q x1 x3 x4 x5 x6 x7 s0 σ) : z_t D cI cJ cM cS n0 p l e rm_X6_suspect s m args below meth c 8 (MQ below (va_Qi Q (fun u t => z_Bq D cI cJ cM cS n0 u t) (z_Ab n0)) args s 0 0 (z_Ab n0)) 0 0 98 [(0, .ref (n0 + 73)), (1, .int x1), (3, .int x3), (4, .int x4), (5, .int x5), (6, .int x6), (7, .int x7)] [.int s0] σ := by
  unfold w_X6_suspect_98 at hf
  refine zt_istore_n (L' := [(2, .int s0), (0, .ref (n0 + 73)), (1, .int x1), (3, .int x3), (4, .int x4), (5, .int x5), (6, .int x6), (7, .int x7)]) hX dX6_suspect_98 rfl (by decide) rfl ?_
  refine zt_iload hX 7 dX6_suspect_99 rfl ?_
  refine zt_if_eq hX dX6_suspect_101 (tgt := 109) (by decide) (fun c19 => ?_) (fun c19 => ?_)
  · replace hf := z_pos hf c19
    refine zt_iload_n hX 3 dX6_suspect_109 rfl rfl ?_
    exact zt_sub [1, 2, 0, 4, 5] rfl (t_X6_suspect_110 hX hY hk19 hk33 _ _ _ _ _ _ hf)
  · replace hf := z_neg hf c19
    refine zt_iload hX 6 dX6_suspect_104 rfl ?_
    refine zt_goto hX dX6_suspect_106 (tgt := 110) (by decide) ?_
    exact zt_sub [1, 2, 0, 4, 5] rfl (t_X6_suspect_110 hX hY hk19 hk33 _ _ _ _ _ _ hf)
set_option maxHeartbeats 4000000 in
set_option maxRecDepth 100000 in
theorem t_X6_suspect_79 {l : Launch} {D : va_G} {cI cJ cM cS : ClassId} {n0 : Nat} {p : Program} {e : Env} {s : State} {m : MethodId} {args : Array Value} {below : List Frame} {meth : Method} {c : Code} {k19 : Int32 → Int32 → Int32 → Int32 → z_S → Prop} {k33 : Int32 → Int32 → Int32 → Int32 → Int32 → z_S → Prop} {Q : Int32 → z_S → Prop} (hX : z_X D cI cJ cM cS p s m args c cX6_suspect 8 yX6_suspect.cls) (hY : z_Y s meth (some .int)) (hk19 : ∀ (x1 : Int32) (x2 : Int32) (x3 : Int32) (x4 : Int32) (σ : z_S), k19 x1 x2 x3 x4 σ → z_t D cI cJ cM cS n0 p l e rm_X6_suspect s m args below meth c 8 (MQ below (va_Qi Q (fun u t => z_Bq D cI cJ cM cS n0 u t) (z_Ab n0)) args s 0 0 (z_Ab n0)) 0 0 19 [(0, .ref (n0 + 73)), (1, .int x1), (2, .int x2), (3, .int x3), (4, .int x4)] [] σ) (hk33 : ∀ (x1 : Int32) (x2 : Int32) (x3 : Int32) (x4 : Int32) (x5 : Int32) (σ : z_S), k33 x1 x2 x3 x4 x5 σ → z_t D cI cJ cM cS n0 p l e rm_X6_suspect s m args below meth c 8 (MQ below (va_Qi Q (fun u t => z_Bq D cI cJ cM cS n0 u t) (z_Ab n0)) args s 0 0 (z_Ab n0)) 0 0 33 [(0, .ref (n0 + 73)), (1, .int x1), (2, .int x2), (3, .int x3), (4, .int x4), (5, .int x5)] [] σ) (x1 : Int32) (x2 : Int32) (x3 : Int32) (x4 : Int32) (x5 : Int32) (x6 : Int32) (s0 : Int32) (σ : z_S) (hf : w_X6_suspect_79 k19 k33 Q x1 x2 x3 x4 x5 x6 s0 σ) : z_t D cI cJ cM cS n0 p l e rm_X6_suspect s m args below meth c 8 (MQ below (va_Qi Q (fun u t => z_Bq D cI cJ cM cS n0 u t) (z_Ab n0)) args s 0 0 (z_Ab n0)) 0 0 79 [(0, .ref (n0 + 73)), (1, .int x1), (2, .int x2), (3, .int x3), (4, .int x4), (5, .int x5), (6, .int x6)] [.int s0] σ := by
  unfold w_X6_suspect_79 at hf
  refine zt_istore (L' := [(7, .int s0), (0, .ref (n0 + 73)), (1, .int x1), (2, .int x2), (3, .int x3), (4, .int x4), (5, .int x5), (6, .int x6)]) hX dX6_suspect_79 (by decide) rfl ?_
  refine zt_iload hX 0 dX6_suspect_81 rfl ?_
  refine zt_if_eq hX dX6_suspect_83 (tgt := 97) (by decide) (fun c18 => ?_) (fun c18 => ?_)
  · replace hf := z_pos hf c18
    refine zt_iload_n hX 3 dX6_suspect_97 rfl rfl ?_
    exact zt_sub [1, 2, 4, 5, 6, 7, 0] rfl (t_X6_suspect_98 hX hY hk19 hk33 _ _ _ _ _ _ _ _ hf)
  · replace hf := z_neg hf c18
    refine zt_bipush hX dX6_suspect_86 (v := (10 : Int32)) (by decide) ?_
    refine zt_iload hX 5 dX6_suspect_88 rfl ?_
    refine zt_imul hX dX6_suspect_90 ?_
    refine zt_iload hX 6 dX6_suspect_91 rfl ?_
    refine zt_iadd hX dX6_suspect_93 ?_
    refine zt_goto hX dX6_suspect_94 (tgt := 98) (by decide) ?_
    exact zt_sub [1, 2, 4, 5, 6, 7, 0] rfl (t_X6_suspect_98 hX hY hk19 hk33 _ _ _ _ _ _ _ _ hf)
set_option maxHeartbeats 4000000 in
set_option maxRecDepth 100000 in
theorem t_X6_suspect_74 {l : Launch} {D : va_G} {cI cJ cM cS : ClassId} {n0 : Nat} {p : Program} {e : Env} {s : State} {m : MethodId} {args : Array Value} {below : List Frame} {meth : Method} {c : Code} {k19 : Int32 → Int32 → Int32 → Int32 → z_S → Prop} {k33 : Int32 → Int32 → Int32 → Int32 → Int32 → z_S → Prop} {Q : Int32 → z_S → Prop} (hX : z_X D cI cJ cM cS p s m args c cX6_suspect 8 yX6_suspect.cls) (hY : z_Y s meth (some .int)) (hk19 : ∀ (x1 : Int32) (x2 : Int32) (x3 : Int32) (x4 : Int32) (σ : z_S), k19 x1 x2 x3 x4 σ → z_t D cI cJ cM cS n0 p l e rm_X6_suspect s m args below meth c 8 (MQ below (va_Qi Q (fun u t => z_Bq D cI cJ cM cS n0 u t) (z_Ab n0)) args s 0 0 (z_Ab n0)) 0 0 19 [(0, .ref (n0 + 73)), (1, .int x1), (2, .int x2), (3, .int x3), (4, .int x4)] [] σ) (hk33 : ∀ (x1 : Int32) (x2 : Int32) (x3 : Int32) (x4 : Int32) (x5 : Int32) (σ : z_S), k33 x1 x2 x3 x4 x5 σ → z_t D cI cJ cM cS n0 p l e rm_X6_suspect s m args below meth c 8 (MQ below (va_Qi Q (fun u t => z_Bq D cI cJ cM cS n0 u t) (z_Ab n0)) args s 0 0 (z_Ab n0)) 0 0 33 [(0, .ref (n0 + 73)), (1, .int x1), (2, .int x2), (3, .int x3), (4, .int x4), (5, .int x5)] [] σ) (x1 : Int32) (x2 : Int32) (x3 : Int32) (x4 : Int32) (x5 : Int32) (x6 : Int32) (σ : z_S) (hf : w_X6_suspect_74 k19 k33 Q x1 x2 x3 x4 x5 x6 σ) : z_t D cI cJ cM cS n0 p l e rm_X6_suspect s m args below meth c 8 (MQ below (va_Qi Q (fun u t => z_Bq D cI cJ cM cS n0 u t) (z_Ab n0)) args s 0 0 (z_Ab n0)) 0 0 74 [(0, .ref (n0 + 73)), (1, .int x1), (2, .int x2), (3, .int x3), (4, .int x4), (5, .int x5), (6, .int x6)] [] σ := by
  unfold w_X6_suspect_74 at hf
  refine zt_iconst hX dX6_suspect_74 (v := (1 : Int32)) (by decide) ?_
  refine zt_goto hX dX6_suspect_75 (tgt := 79) (by decide) ?_
  exact zt_sub [0, 1, 2, 3, 4, 5, 6] rfl (t_X6_suspect_79 hX hY hk19 hk33 _ _ _ _ _ _ _ _ hf)
set_option maxHeartbeats 4000000 in
set_option maxRecDepth 100000 in
theorem t_X6_suspect_33 {l : Launch} {D : va_G} {cI cJ cM cS : ClassId} {n0 : Nat} {p : Program} {e : Env} {s : State} {m : MethodId} {args : Array Value} {below : List Frame} {meth : Method} {c : Code} {k19 : Int32 → Int32 → Int32 → Int32 → z_S → Prop} {Q : Int32 → z_S → Prop} (hX : z_X D cI cJ cM cS p s m args c cX6_suspect 8 yX6_suspect.cls) (hY : z_Y s meth (some .int)) (hk19 : ∀ (x1 : Int32) (x2 : Int32) (x3 : Int32) (x4 : Int32) (σ : z_S), k19 x1 x2 x3 x4 σ → z_t D cI cJ cM cS n0 p l e rm_X6_suspect s m args below meth c 8 (MQ below (va_Qi Q (fun u t => z_Bq D cI cJ cM cS n0 u t) (z_Ab n0)) args s 0 0 (z_Ab n0)) 0 0 19 [(0, .ref (n0 + 73)), (1, .int x1), (2, .int x2), (3, .int x3), (4, .int x4)] [] σ) : ∀ (n : Nat) (x1 : Int32) (x2 : Int32) (x3 : Int32) (x4 : Int32) (x5 : Int32) (σ : z_S), w_X6_suspect_33 k19 Q n x1 x2 x3 x4 x5 σ → z_t D cI cJ cM cS n0 p l e rm_X6_suspect s m args below meth c 8 (MQ below (va_Qi Q (fun u t => z_Bq D cI cJ cM cS n0 u t) (z_Ab n0)) args s 0 0 (z_Ab n0)) 0 0 33 [(0, .ref (n0 + 73)), (1, .int x1), (2, .int x2), (3, .int x3), (4, .int x4), (5, .int x5)] [] σ := by
  intro n
  induction n with
  | zero => intro _ _ _ _ _ _ hf; exact hf.elim
  | succ n ih33 =>
    intro x1 x2 x3 x4 x5 σ hf
    have hf : wb_X6_suspect_33 k19 Q (w_X6_suspect_33 k19 Q n) x1 x2 x3 x4 x5 σ := hf
    unfold wb_X6_suspect_33 at hf
    refine zt_iload hX 5 dX6_suspect_33 rfl ?_
    refine zt_bipush hX dX6_suspect_35 (v := (8 : Int32)) (by decide) ?_
    refine zt_icmp_ge hX dX6_suspect_37 (tgt := 117) (by decide) (fun c10 => ?_) (fun c10 => ?_)
    · replace hf := z_pos hf c10
      exact zt_sub [0, 1, 2, 3, 4] rfl (t_X6_suspect_117 hX hY hk19 _ _ _ _ _ hf)
    · replace hf := z_neg hf c10
      refine zt_aload_n hX 0 dX6_suspect_40 rfl rfl ?_
      refine zt_iload hX 4 dX6_suspect_41 rfl ?_
      refine zt_iconst hX dX6_suspect_43 (v := (0 : Int32)) (by decide) ?_
      refine zt_calliV hX hY (av := [.int x4, .int (0 : Int32)]) (c_X6_of hf) dX6_suspect_44 rfl kw_729 kw_731 kw_25 kw_67 kw_732 ⟨rfl, rfl⟩ hy_X6_of ⟨by decide, by decide⟩ ⟨by decide, by decide⟩ (Nat.le_of_ble_eq_true rfl) (by decide) (zE_73 _ _) rfl rfl (fun r12 σ13 hf => ?_)
      refine zt_iload_n hX 1 dX6_suspect_47 rfl rfl ?_
      refine zt_icmp_ne hX dX6_suspect_48 (tgt := 117) (by decide) (fun c14 => ?_) (fun c14 => ?_)
      · replace hf := z_neg hf c14
        exact zt_sub [0, 1, 2, 3, 4] rfl (t_X6_suspect_117 hX hY hk19 _ _ _ _ _ hf)
      · replace hf := z_pos hf c14
        refine zt_aload_n hX 0 dX6_suspect_51 rfl rfl ?_
        refine zt_iload_n hX 1 dX6_suspect_52 rfl rfl ?_
        refine zt_iload hX 4 dX6_suspect_53 rfl ?_
        refine zt_iload hX 5 dX6_suspect_55 rfl ?_
        refine zt_calliV hX hY (av := [.int x1, .int x4, .int x5]) (c_X6_imbalanceOf hf) dX6_suspect_57 rfl kw_934 kw_936 kw_51 kw_67 kw_937 ⟨rfl, rfl⟩ hy_X6_imbalanceOf ⟨by decide, by decide⟩ ⟨by decide, by decide⟩ (Nat.le_of_ble_eq_true rfl) (by decide) (zE_73 _ _) rfl rfl (fun r15 σ16 hf => ?_)
        refine zt_istore (L' := [(6, .int r15), (0, .ref (n0 + 73)), (1, .int x1), (2, .int x2), (3, .int x3), (4, .int x4), (5, .int x5)]) hX dX6_suspect_60 (by decide) rfl ?_
        refine zt_iload_n hX 3 dX6_suspect_62 rfl rfl ?_
        refine zt_ldc hX dX6_suspect_63 kw_715 ?_
        refine zt_icmp_eq hX dX6_suspect_65 (tgt := 74) (by decide) (fun c17 => ?_) (fun c17 => ?_)
        · replace hf := z_pos hf c17
          exact zt_sub [1, 2, 3, 4, 5, 6, 0] rfl (t_X6_suspect_74 hX hY hk19 ih33 _ _ _ _ _ _ _ hf)
        · replace hf := z_neg hf c17
          refine zt_iload hX 0 dX6_suspect_68 rfl ?_
          refine zt_iload_n hX 4 dX6_suspect_70 rfl rfl ?_
          refine zt_icmp_ge hX dX6_suspect_71 (tgt := 78) (by decide) (fun c21 => ?_) (fun c21 => ?_)
          · replace hf := z_pos hf c21
            refine zt_iconst hX dX6_suspect_78 (v := (0 : Int32)) (by decide) ?_
            exact zt_sub [1, 2, 3, 4, 5, 6, 0] rfl (t_X6_suspect_79 hX hY hk19 ih33 _ _ _ _ _ _ _ _ hf)
          · replace hf := z_neg hf c21
            exact zt_sub [1, 2, 3, 4, 5, 6, 0] rfl (t_X6_suspect_74 hX hY hk19 ih33 _ _ _ _ _ _ _ hf)
set_option maxHeartbeats 4000000 in
set_option maxRecDepth 100000 in
theorem t_X6_suspect_19 {l : Launch} {D : va_G} {cI cJ cM cS : ClassId} {n0 : Nat} {p : Program} {e : Env} {s : State} {m : MethodId} {args : Array Value} {below : List Frame} {meth : Method} {c : Code}  {Q : Int32 → z_S → Prop} (hX : z_X D cI cJ cM cS p s m args c cX6_suspect 8 yX6_suspect.cls) (hY : z_Y s meth (some .int))  : ∀ (n : Nat) (x1 : Int32) (x2 : Int32) (x3 : Int32) (x4 : Int32) (σ : z_S), w_X6_suspect_19  Q n x1 x2 x3 x4 σ → z_t D cI cJ cM cS n0 p l e rm_X6_suspect s m args below meth c 8 (MQ below (va_Qi Q (fun u t => z_Bq D cI cJ cM cS n0 u t) (z_Ab n0)) args s 0 0 (z_Ab n0)) 0 0 19 [(0, .ref (n0 + 73)), (1, .int x1), (2, .int x2), (3, .int x3), (4, .int x4)] [] σ := by
  intro n
  induction n with
  | zero => intro _ _ _ _ _ hf; exact hf.elim
  | succ n ih19 =>
    intro x1 x2 x3 x4 σ hf
    have hf : wb_X6_suspect_19  Q (w_X6_suspect_19  Q n) x1 x2 x3 x4 σ := hf
    unfold wb_X6_suspect_19 at hf
    refine zt_iload hX 4 dX6_suspect_19 rfl ?_
    refine zt_aload_n hX 0 dX6_suspect_21 rfl rfl ?_
    refine zt_get_X6 hX (by decide) (zE_73 _ _) 0 (by decide) kw_654 rfl rfl dX6_suspect_22 ?_
    refine zt_iconst hX dX6_suspect_25 (v := (0 : Int32)) (by decide) ?_
    obtain ⟨h4, hf⟩ := hf
    refine zt_iaload hX dX6_suspect_26 (by decide) rfl h4 ?_
    refine zt_icmp_ge hX dX6_suspect_27 (tgt := 123) (by decide) (fun c5 => ?_) (fun c5 => ?_)
    · replace hf := z_pos hf c5
      refine zt_iload_n hX 2 dX6_suspect_123 rfl rfl ?_
      refine zt_ldc hX dX6_suspect_124 kw_715 ?_
      refine zt_icmp_eq hX dX6_suspect_126 (tgt := 152) (by decide) (fun c6 => ?_) (fun c6 => ?_)
      · replace hf := z_pos hf c6
        refine zt_ldc hX dX6_suspect_152 kw_715 ?_
        exact zt_iret hX hY dX6_suspect_154 hf
      · replace hf := z_neg hf c6
        refine zt_ldc2 hX dX6_suspect_129 kw_949 ?_
        refine zt_iload_n hX 3 dX6_suspect_132 rfl rfl ?_
        refine zt_i2l hX dX6_suspect_133 ?_
        refine zt_lmul hX dX6_suspect_134 ?_
        refine zt_aload_n hX 0 dX6_suspect_135 rfl rfl ?_
        refine zt_iload_n hX 1 dX6_suspect_136 rfl rfl ?_
        refine zt_iconst hX dX6_suspect_137 (v := (0 : Int32)) (by decide) ?_
        refine zt_bipush hX dX6_suspect_138 (v := (8 : Int32)) (by decide) ?_
        refine zt_calliV hX hY (av := [.int x1, .int (0 : Int32), .int (8 : Int32)]) (c_X6_imbalanceOf hf) dX6_suspect_140 rfl kw_934 kw_936 kw_51 kw_67 kw_937 ⟨rfl, rfl⟩ hy_X6_imbalanceOf ⟨by decide, by decide⟩ ⟨by decide, by decide⟩ (Nat.le_of_ble_eq_true rfl) (by decide) (zE_73 _ _) rfl rfl (fun r7 σ8 hf => ?_)
        refine zt_i2l hX dX6_suspect_143 ?_
        refine zt_lcmp hX dX6_suspect_144 ?_
        refine zt_if_ge hX dX6_suspect_145 (tgt := 152) (by decide) (fun c9 => ?_) (fun c9 => ?_)
        · replace hf := z_pos hf c9
          refine zt_ldc hX dX6_suspect_152 kw_715 ?_
          exact zt_iret hX hY dX6_suspect_154 hf
        · replace hf := z_neg hf c9
          refine zt_iload_n hX 2 dX6_suspect_148 rfl rfl ?_
          refine zt_goto hX dX6_suspect_149 (tgt := 154) (by decide) ?_
          exact zt_iret hX hY dX6_suspect_154 hf
    · replace hf := z_neg hf c5
      refine zt_iconst hX dX6_suspect_30 (v := (0 : Int32)) (by decide) ?_
      refine zt_istore (L' := [(5, .int (0 : Int32)), (0, .ref (n0 + 73)), (1, .int x1), (2, .int x2), (3, .int x3), (4, .int x4)]) hX dX6_suspect_31 (by decide) rfl ?_
      exact zt_sub [1, 2, 3, 4, 5, 0] rfl (t_X6_suspect_33 hX hY ih19 400 _ _ _ _ _ _ hf)
set_option maxHeartbeats 4000000 in
set_option maxRecDepth 100000 in
theorem c_X6_suspect {l : Launch} {D : va_G} {cI cJ cM cS : ClassId} {n0 : Nat} {a1 : Int32} {σ : z_S} {Q : Int32 → z_S → Prop} (hf : w_X6_suspect a1 σ Q) : z_ci l D cI cJ cM cS n0 yX6_suspect cX6_suspect 8 .int rm_X6_suspect 0 0 [.ref (n0 + 73), .int a1] σ Q := by
  refine z_ofi (by decide +kernel) (Nat.le_of_ble_eq_true rfl) (fun p e s m args below meth c hX hY => ?_)
  unfold w_X6_suspect at hf
  refine zt_L (L' := [(0, .ref (n0 + 73)), (1, .int a1)]) rfl ?_
  refine zt_aload_n hX 0 dX6_suspect_0 rfl rfl ?_
  refine zt_iload_n hX 1 dX6_suspect_1 rfl rfl ?_
  refine zt_calliV hX hY (av := [.int a1]) (c_X6_isMeter hf) dX6_suspect_2 rfl kw_698 kw_700 kw_20 kw_67 kw_701 ⟨rfl, rfl⟩ hy_X6_isMeter ⟨by decide, by decide⟩ ⟨by decide, by decide⟩ (Nat.le_of_ble_eq_true rfl) (by decide) (zE_73 _ _) rfl rfl (fun r1 σ2 hf => ?_)
  refine zt_if_ne hX dX6_suspect_5 (tgt := 11) (by decide) (fun c3 => ?_) (fun c3 => ?_)
  · replace hf := z_neg hf c3
    refine zt_ldc hX dX6_suspect_11 kw_715 ?_
    refine zt_istore_n (L' := [(2, .int (-2000000000 : Int32)), (0, .ref (n0 + 73)), (1, .int a1)]) hX dX6_suspect_13 rfl (by decide) rfl ?_
    refine zt_iconst hX dX6_suspect_14 (v := (0 : Int32)) (by decide) ?_
    refine zt_istore_n (L' := [(3, .int (0 : Int32)), (2, .int (-2000000000 : Int32)), (0, .ref (n0 + 73)), (1, .int a1)]) hX dX6_suspect_15 rfl (by decide) rfl ?_
    refine zt_iconst hX dX6_suspect_16 (v := (1 : Int32)) (by decide) ?_
    refine zt_istore (L' := [(4, .int (1 : Int32)), (3, .int (0 : Int32)), (2, .int (-2000000000 : Int32)), (0, .ref (n0 + 73)), (1, .int a1)]) hX dX6_suspect_17 (by decide) rfl ?_
    exact zt_sub [3, 4, 2, 1, 0] rfl (t_X6_suspect_19 hX hY 400 _ _ _ _ _ hf)
  · replace hf := z_pos hf c3
    refine zt_ldc hX dX6_suspect_8 kw_705 ?_
    exact zt_iret hX hY dX6_suspect_10 hf

theorem dX6_revise_0 : decode cX6_revise 0 = .ok (.aload_n 0, 1) := by decide +kernel
theorem dX6_revise_1 : decode cX6_revise 1 = .ok (.getfield 7, 3) := by decide +kernel
theorem dX6_revise_4 : decode cX6_revise 4 = .ok (.iconst 0, 1) := by decide +kernel
theorem dX6_revise_5 : decode cX6_revise 5 = .ok (.iaload, 1) := by decide +kernel
theorem dX6_revise_6 : decode cX6_revise 6 = .ok (.ifCond .ne 6, 3) := by decide +kernel
theorem dX6_revise_9 : decode cX6_revise 9 = .ok (.ldc 164, 2) := by decide +kernel
theorem dX6_revise_11 : decode cX6_revise 11 = .ok (.ireturn, 1) := by decide +kernel
theorem dX6_revise_12 : decode cX6_revise 12 = .ok (.aload_n 0, 1) := by decide +kernel
theorem dX6_revise_13 : decode cX6_revise 13 = .ok (.getfield 7, 3) := by decide +kernel
theorem dX6_revise_16 : decode cX6_revise 16 = .ok (.iconst 3, 1) := by decide +kernel
theorem dX6_revise_17 : decode cX6_revise 17 = .ok (.iaload, 1) := by decide +kernel
theorem dX6_revise_18 : decode cX6_revise 18 = .ok (.bipush 8, 2) := by decide +kernel
theorem dX6_revise_20 : decode cX6_revise 20 = .ok (.if_icmp .ne 6, 3) := by decide +kernel
theorem dX6_revise_23 : decode cX6_revise 23 = .ok (.ldc 58, 2) := by decide +kernel
theorem dX6_revise_25 : decode cX6_revise 25 = .ok (.ireturn, 1) := by decide +kernel
theorem dX6_revise_26 : decode cX6_revise 26 = .ok (.aload_n 0, 1) := by decide +kernel
theorem dX6_revise_27 : decode cX6_revise 27 = .ok (.invokevirtual 59, 3) := by decide +kernel
theorem dX6_revise_30 : decode cX6_revise 30 = .ok (.aload_n 0, 1) := by decide +kernel
theorem dX6_revise_31 : decode cX6_revise 31 = .ok (.invokevirtual 139, 3) := by decide +kernel
theorem dX6_revise_34 : decode cX6_revise 34 = .ok (.aload_n 0, 1) := by decide +kernel
theorem dX6_revise_35 : decode cX6_revise 35 = .ok (.getfield 7, 3) := by decide +kernel
theorem dX6_revise_38 : decode cX6_revise 38 = .ok (.iconst 3, 1) := by decide +kernel
theorem dX6_revise_39 : decode cX6_revise 39 = .ok (.iaload, 1) := by decide +kernel
theorem dX6_revise_40 : decode cX6_revise 40 = .ok (.istore_n 1, 1) := by decide +kernel
theorem dX6_revise_41 : decode cX6_revise 41 = .ok (.iconst 0, 1) := by decide +kernel
theorem dX6_revise_42 : decode cX6_revise 42 = .ok (.istore_n 2, 1) := by decide +kernel
theorem dX6_revise_43 : decode cX6_revise 43 = .ok (.iload_n 2, 1) := by decide +kernel
theorem dX6_revise_44 : decode cX6_revise 44 = .ok (.bipush 10, 2) := by decide +kernel
theorem dX6_revise_46 : decode cX6_revise 46 = .ok (.if_icmp .ge 43, 3) := by decide +kernel
theorem dX6_revise_49 : decode cX6_revise 49 = .ok (.aload_n 0, 1) := by decide +kernel
theorem dX6_revise_50 : decode cX6_revise 50 = .ok (.getfield 7, 3) := by decide +kernel
theorem dX6_revise_53 : decode cX6_revise 53 = .ok (.sipush 184, 3) := by decide +kernel
theorem dX6_revise_56 : decode cX6_revise 56 = .ok (.bipush 10, 2) := by decide +kernel
theorem dX6_revise_58 : decode cX6_revise 58 = .ok (.iload_n 1, 1) := by decide +kernel
theorem dX6_revise_59 : decode cX6_revise 59 = .ok (.imul, 1) := by decide +kernel
theorem dX6_revise_60 : decode cX6_revise 60 = .ok (.iadd, 1) := by decide +kernel
theorem dX6_revise_61 : decode cX6_revise 61 = .ok (.iload_n 2, 1) := by decide +kernel
theorem dX6_revise_62 : decode cX6_revise 62 = .ok (.iadd, 1) := by decide +kernel
theorem dX6_revise_63 : decode cX6_revise 63 = .ok (.aload_n 0, 1) := by decide +kernel
theorem dX6_revise_64 : decode cX6_revise 64 = .ok (.iload_n 2, 1) := by decide +kernel
theorem dX6_revise_65 : decode cX6_revise 65 = .ok (.invokevirtual 53, 3) := by decide +kernel
theorem dX6_revise_68 : decode cX6_revise 68 = .ok (.ifCond .eq 12, 3) := by decide +kernel
theorem dX6_revise_71 : decode cX6_revise 71 = .ok (.aload_n 0, 1) := by decide +kernel
theorem dX6_revise_72 : decode cX6_revise 72 = .ok (.getfield 26, 3) := by decide +kernel
theorem dX6_revise_75 : decode cX6_revise 75 = .ok (.iload_n 2, 1) := by decide +kernel
theorem dX6_revise_76 : decode cX6_revise 76 = .ok (.iaload, 1) := by decide +kernel
theorem dX6_revise_77 : decode cX6_revise 77 = .ok (.goto 5, 3) := by decide +kernel
theorem dX6_revise_80 : decode cX6_revise 80 = .ok (.ldc 48, 2) := by decide +kernel
theorem dX6_revise_82 : decode cX6_revise 82 = .ok (.iastore, 1) := by decide +kernel
theorem dX6_revise_83 : decode cX6_revise 83 = .ok (.iinc 2 1, 3) := by decide +kernel
theorem dX6_revise_86 : decode cX6_revise 86 = .ok (.goto (-43), 3) := by decide +kernel
theorem dX6_revise_89 : decode cX6_revise 89 = .ok (.aload_n 0, 1) := by decide +kernel
theorem dX6_revise_90 : decode cX6_revise 90 = .ok (.getfield 7, 3) := by decide +kernel
theorem dX6_revise_93 : decode cX6_revise 93 = .ok (.iconst 3, 1) := by decide +kernel
theorem dX6_revise_94 : decode cX6_revise 94 = .ok (.dup2, 1) := by decide +kernel
theorem dX6_revise_95 : decode cX6_revise 95 = .ok (.iaload, 1) := by decide +kernel
theorem dX6_revise_96 : decode cX6_revise 96 = .ok (.iconst 1, 1) := by decide +kernel
theorem dX6_revise_97 : decode cX6_revise 97 = .ok (.iadd, 1) := by decide +kernel
theorem dX6_revise_98 : decode cX6_revise 98 = .ok (.iastore, 1) := by decide +kernel
theorem dX6_revise_99 : decode cX6_revise 99 = .ok (.iload_n 1, 1) := by decide +kernel
theorem dX6_revise_100 : decode cX6_revise 100 = .ok (.ireturn, 1) := by decide +kernel
abbrev rm_X6_revise : Room := { frames := 12, cells := 0, slots := 0, locals := 281 }
theorem hy_X6_revise : yX6_revise.cls ≠ "java/lang/invoke/MethodHandle" ∧ yX6_revise.cls ≠ "java/lang/invoke/VarHandle" ∧ (parseMethodDescriptor yX6_revise.desc).map (fun d => d.parameters.length) = some 0 := by decide +kernel
def w_X6_revise_82 (k43 : Int32 → Int32 → z_S → Prop) (Q : Int32 → z_S → Prop) (x1 : Int32) (x2 : Int32) (s0 : Int32) (s1 : Int32) (σ : z_S) : Prop :=
  vp_in s1 1584 ∧ ∀ σ19 : z_S, σ19 = zs_i σ 74 s1.toNatClampNeg s0 → ∀ y20 : Int32, y20 = (x2 + (1 : Int32)) → k43 x1 y20 σ19
def wb_X6_revise_43  (Q : Int32 → z_S → Prop) (k43 : Int32 → Int32 → z_S → Prop) (x1 : Int32) (x2 : Int32) (σ : z_S) : Prop :=
  if (10 : Int32) ≤ x2 then (vp_in (3 : Int32) 1584 ∧ vp_in (3 : Int32) 1584 ∧ ∀ σ14 : z_S, σ14 = zs_i σ 74 (3 : Int32).toNatClampNeg ((zg_i σ 74 (3 : Int32).toNatClampNeg) + (1 : Int32)) → Q x1 σ14) else (w_X6_isMeter x2 σ (fun r15 σ16 => if r15 = 0 then (w_X6_revise_82 k43 Q x1 x2 (-2000000000 : Int32) (((184 : Int32) + ((10 : Int32) * x1)) + x2) σ16) else (vp_in x2 10 ∧ w_X6_revise_82 k43 Q x1 x2 (zg_i σ16 79 x2.toNatClampNeg) (((184 : Int32) + ((10 : Int32) * x1)) + x2) σ16)))
def w_X6_revise_43  (Q : Int32 → z_S → Prop) : Nat → Int32 → Int32 → z_S → Prop
  | 0 => fun _ _ _ => False
  | n + 1 => wb_X6_revise_43  Q (w_X6_revise_43  Q n)
def w_X6_revise  (σ : z_S) (Q : Int32 → z_S → Prop) : Prop :=
  vp_in (0 : Int32) 1584 ∧ if (zg_i σ 74 (0 : Int32).toNatClampNeg) = 0 then (Q (-2000000003 : Int32) σ) else (vp_in (3 : Int32) 1584 ∧ if (zg_i σ 74 (3 : Int32).toNatClampNeg) = (8 : Int32) then (Q (-2000000004 : Int32) σ) else (w_X6_saves σ (fun σ6 => w_X6_billsAll σ6 (fun σ8 => vp_in (3 : Int32) 1584 ∧ ∀ y10 : Int32, y10 = (zg_i σ8 74 (3 : Int32).toNatClampNeg) → w_X6_revise_43 Q 400 y10 (0 : Int32) σ8))))
set_option maxHeartbeats 4000000 in
set_option maxRecDepth 100000 in
theorem t_X6_revise_82 {l : Launch} {D : va_G} {cI cJ cM cS : ClassId} {n0 : Nat} {p : Program} {e : Env} {s : State} {m : MethodId} {args : Array Value} {below : List Frame} {meth : Method} {c : Code} {k43 : Int32 → Int32 → z_S → Prop} {Q : Int32 → z_S → Prop} (hX : z_X D cI cJ cM cS p s m args c cX6_revise 3 yX6_revise.cls) (hY : z_Y s meth (some .int)) (hk43 : ∀ (x1 : Int32) (x2 : Int32) (σ : z_S), k43 x1 x2 σ → z_t D cI cJ cM cS n0 p l e rm_X6_revise s m args below meth c 3 (MQ below (va_Qi Q (fun u t => z_Bq D cI cJ cM cS n0 u t) (z_Ab n0)) args s 0 0 (z_Ab n0)) 0 0 43 [(0, .ref (n0 + 73)), (1, .int x1), (2, .int x2)] [] σ) (x1 : Int32) (x2 : Int32) (s0 : Int32) (s1 : Int32) (σ : z_S) (hf : w_X6_revise_82 k43 Q x1 x2 s0 s1 σ) : z_t D cI cJ cM cS n0 p l e rm_X6_revise s m args below meth c 3 (MQ below (va_Qi Q (fun u t => z_Bq D cI cJ cM cS n0 u t) (z_Ab n0)) args s 0 0 (z_Ab n0)) 0 0 82 [(0, .ref (n0 + 73)), (1, .int x1), (2, .int x2)] [.int s0, .int s1, .ref (n0 + 74)] σ := by
  unfold w_X6_revise_82 at hf
  obtain ⟨h18, hf⟩ := hf
  refine zt_iastore hX dX6_revise_82 (by decide) rfl h18 ?_
  refine zt_nms (fun σ19 d19 => ?_)
  replace hf := hf σ19 d19
  obtain ⟨y20, e20⟩ : ∃ y : Int32, y = (x2 + (1 : Int32)) := ⟨_, rfl⟩
  replace hf := hf y20 e20
  refine zt_iinc (L' := [(2, .int y20), (0, .ref (n0 + 73)), (1, .int x1)]) hX 2 dX6_revise_83 rfl (v := y20) (by rw [e20]; rfl) (by decide) rfl ?_
  refine zt_goto hX dX6_revise_86 (tgt := 43) (by decide) ?_
  exact zt_sub [1, 2, 0] rfl (hk43 _ _ _ hf)
set_option maxHeartbeats 4000000 in
set_option maxRecDepth 100000 in
theorem t_X6_revise_43 {l : Launch} {D : va_G} {cI cJ cM cS : ClassId} {n0 : Nat} {p : Program} {e : Env} {s : State} {m : MethodId} {args : Array Value} {below : List Frame} {meth : Method} {c : Code}  {Q : Int32 → z_S → Prop} (hX : z_X D cI cJ cM cS p s m args c cX6_revise 3 yX6_revise.cls) (hY : z_Y s meth (some .int))  : ∀ (n : Nat) (x1 : Int32) (x2 : Int32) (σ : z_S), w_X6_revise_43  Q n x1 x2 σ → z_t D cI cJ cM cS n0 p l e rm_X6_revise s m args below meth c 3 (MQ below (va_Qi Q (fun u t => z_Bq D cI cJ cM cS n0 u t) (z_Ab n0)) args s 0 0 (z_Ab n0)) 0 0 43 [(0, .ref (n0 + 73)), (1, .int x1), (2, .int x2)] [] σ := by
  intro n
  induction n with
  | zero => intro _ _ _ hf; exact hf.elim
  | succ n ih43 =>
    intro x1 x2 σ hf
    have hf : wb_X6_revise_43  Q (w_X6_revise_43  Q n) x1 x2 σ := hf
    unfold wb_X6_revise_43 at hf
    refine zt_iload_n hX 2 dX6_revise_43 rfl rfl ?_
    refine zt_bipush hX dX6_revise_44 (v := (10 : Int32)) (by decide) ?_
    refine zt_icmp_ge hX dX6_revise_46 (tgt := 89) (by decide) (fun c11 => ?_) (fun c11 => ?_)
    · replace hf := z_pos hf c11
      refine zt_aload_n hX 0 dX6_revise_89 rfl rfl ?_
      refine zt_get_X6 hX (by decide) (zE_73 _ _) 0 (by decide) kw_654 rfl rfl dX6_revise_90 ?_
      refine zt_iconst hX dX6_revise_93 (v := (3 : Int32)) (by decide) ?_
      refine zt_dup2 hX dX6_revise_94 rfl rfl ?_
      obtain ⟨h12, hf⟩ := hf
      refine zt_iaload hX dX6_revise_95 (by decide) rfl h12 ?_
      refine zt_iconst hX dX6_revise_96 (v := (1 : Int32)) (by decide) ?_
      refine zt_iadd hX dX6_revise_97 ?_
      obtain ⟨h13, hf⟩ := hf
      refine zt_iastore hX dX6_revise_98 (by decide) rfl h13 ?_
      refine zt_nms (fun σ14 d14 => ?_)
      replace hf := hf σ14 d14
      refine zt_iload_n hX 1 dX6_revise_99 rfl rfl ?_
      exact zt_iret hX hY dX6_revise_100 hf
    · replace hf := z_neg hf c11
      refine zt_aload_n hX 0 dX6_revise_49 rfl rfl ?_
      refine zt_get_X6 hX (by decide) (zE_73 _ _) 0 (by decide) kw_654 rfl rfl dX6_revise_50 ?_
      refine zt_sipush hX dX6_revise_53 (v := (184 : Int32)) (by decide) ?_
      refine zt_bipush hX dX6_revise_56 (v := (10 : Int32)) (by decide) ?_
      refine zt_iload_n hX 1 dX6_revise_58 rfl rfl ?_
      refine zt_imul hX dX6_revise_59 ?_
      refine zt_iadd hX dX6_revise_60 ?_
      refine zt_iload_n hX 2 dX6_revise_61 rfl rfl ?_
      refine zt_iadd hX dX6_revise_62 ?_
      refine zt_aload_n hX 0 dX6_revise_63 rfl rfl ?_
      refine zt_iload_n hX 2 dX6_revise_64 rfl rfl ?_
      refine zt_calliV hX hY (av := [.int x2]) (c_X6_isMeter hf) dX6_revise_65 rfl kw_698 kw_700 kw_20 kw_67 kw_701 ⟨rfl, rfl⟩ hy_X6_isMeter ⟨by decide, by decide⟩ ⟨by decide, by decide⟩ (Nat.le_of_ble_eq_true rfl) (by decide) (zE_73 _ _) rfl rfl (fun r15 σ16 hf => ?_)
      refine zt_if_eq hX dX6_revise_68 (tgt := 80) (by decide) (fun c17 => ?_) (fun c17 => ?_)
      · replace hf := z_pos hf c17
        refine zt_ldc hX dX6_revise_80 kw_715 ?_
        exact zt_sub [0, 1, 2] rfl (t_X6_revise_82 hX hY ih43 _ _ _ _ _ hf)
      · replace hf := z_neg hf c17
        refine zt_aload_n hX 0 dX6_revise_71 rfl rfl ?_
        refine zt_get_X6 hX (by decide) (zE_73 _ _) 6 (by decide) kw_660 rfl rfl dX6_revise_72 ?_
        refine zt_iload_n hX 2 dX6_revise_75 rfl rfl ?_
        obtain ⟨h21, hf⟩ := hf
        refine zt_iaload hX dX6_revise_76 (by decide) rfl h21 ?_
        refine zt_goto hX dX6_revise_77 (tgt := 82) (by decide) ?_
        exact zt_sub [0, 1, 2] rfl (t_X6_revise_82 hX hY ih43 _ _ _ _ _ hf)
set_option maxHeartbeats 4000000 in
set_option maxRecDepth 100000 in
theorem c_X6_revise {l : Launch} {D : va_G} {cI cJ cM cS : ClassId} {n0 : Nat}  {σ : z_S} {Q : Int32 → z_S → Prop} (hf : w_X6_revise  σ Q) : z_ci l D cI cJ cM cS n0 yX6_revise cX6_revise 3 .int rm_X6_revise 0 0 [.ref (n0 + 73)] σ Q := by
  refine z_ofi (by decide +kernel) (Nat.le_of_ble_eq_true rfl) (fun p e s m args below meth c hX hY => ?_)
  unfold w_X6_revise at hf
  refine zt_L (L' := [(0, .ref (n0 + 73))]) rfl ?_
  refine zt_aload_n hX 0 dX6_revise_0 rfl rfl ?_
  refine zt_get_X6 hX (by decide) (zE_73 _ _) 0 (by decide) kw_654 rfl rfl dX6_revise_1 ?_
  refine zt_iconst hX dX6_revise_4 (v := (0 : Int32)) (by decide) ?_
  obtain ⟨h1, hf⟩ := hf
  refine zt_iaload hX dX6_revise_5 (by decide) rfl h1 ?_
  refine zt_if_ne hX dX6_revise_6 (tgt := 12) (by decide) (fun c2 => ?_) (fun c2 => ?_)
  · replace hf := z_neg hf c2
    refine zt_aload_n hX 0 dX6_revise_12 rfl rfl ?_
    refine zt_get_X6 hX (by decide) (zE_73 _ _) 0 (by decide) kw_654 rfl rfl dX6_revise_13 ?_
    refine zt_iconst hX dX6_revise_16 (v := (3 : Int32)) (by decide) ?_
    obtain ⟨h3, hf⟩ := hf
    refine zt_iaload hX dX6_revise_17 (by decide) rfl h3 ?_
    refine zt_bipush hX dX6_revise_18 (v := (8 : Int32)) (by decide) ?_
    refine zt_icmp_ne hX dX6_revise_20 (tgt := 26) (by decide) (fun c4 => ?_) (fun c4 => ?_)
    · replace hf := z_neg hf c4
      refine zt_aload_n hX 0 dX6_revise_26 rfl rfl ?_
      refine zt_callvV hX hY (av := []) (c_X6_saves hf) dX6_revise_27 rfl kw_707 kw_709 kw_21 kw_67 kw_710 ⟨rfl, rfl⟩ hy_X6_saves ⟨by decide, by decide⟩ ⟨by decide, by decide⟩ (Nat.le_of_ble_eq_true rfl) (by decide) (zE_73 _ _) rfl rfl (fun σ6 hf => ?_)
      refine zt_aload_n hX 0 dX6_revise_30 rfl rfl ?_
      refine zt_callvV hX hY (av := []) (c_X6_billsAll hf) dX6_revise_31 rfl kw_899 kw_901 kw_48 kw_67 kw_902 ⟨rfl, rfl⟩ hy_X6_billsAll ⟨by decide, by decide⟩ ⟨by decide, by decide⟩ (Nat.le_of_ble_eq_true rfl) (by decide) (zE_73 _ _) rfl rfl (fun σ8 hf => ?_)
      refine zt_aload_n hX 0 dX6_revise_34 rfl rfl ?_
      refine zt_get_X6 hX (by decide) (zE_73 _ _) 0 (by decide) kw_654 rfl rfl dX6_revise_35 ?_
      refine zt_iconst hX dX6_revise_38 (v := (3 : Int32)) (by decide) ?_
      obtain ⟨h9, hf⟩ := hf
      refine zt_iaload hX dX6_revise_39 (by decide) rfl h9 ?_
      refine zt_nmi (fun y10 e10 => ?_)
      replace hf := hf y10 e10
      refine zt_istore_n (L' := [(1, .int y10), (0, .ref (n0 + 73))]) hX dX6_revise_40 rfl (by decide) rfl ?_
      refine zt_iconst hX dX6_revise_41 (v := (0 : Int32)) (by decide) ?_
      refine zt_istore_n (L' := [(2, .int (0 : Int32)), (1, .int y10), (0, .ref (n0 + 73))]) hX dX6_revise_42 rfl (by decide) rfl ?_
      exact zt_sub [2, 1, 0] rfl (t_X6_revise_43 hX hY 400 _ _ _ hf)
    · replace hf := z_pos hf c4
      refine zt_ldc hX dX6_revise_23 kw_706 ?_
      exact zt_iret hX hY dX6_revise_25 hf
  · replace hf := z_pos hf c2
    refine zt_ldc hX dX6_revise_9 kw_954 ?_
    exact zt_iret hX hY dX6_revise_11 hf

theorem dX6_revisions_0 : decode cX6_revisions 0 = .ok (.aload_n 0, 1) := by decide +kernel
theorem dX6_revisions_1 : decode cX6_revisions 1 = .ok (.getfield 7, 3) := by decide +kernel
theorem dX6_revisions_4 : decode cX6_revisions 4 = .ok (.iconst 3, 1) := by decide +kernel
theorem dX6_revisions_5 : decode cX6_revisions 5 = .ok (.iaload, 1) := by decide +kernel
theorem dX6_revisions_6 : decode cX6_revisions 6 = .ok (.ireturn, 1) := by decide +kernel
abbrev rm_X6_revisions : Room := { frames := 0, cells := 0, slots := 0, locals := 0 }
theorem hy_X6_revisions : yX6_revisions.cls ≠ "java/lang/invoke/MethodHandle" ∧ yX6_revisions.cls ≠ "java/lang/invoke/VarHandle" ∧ (parseMethodDescriptor yX6_revisions.desc).map (fun d => d.parameters.length) = some 0 := by decide +kernel
def w_X6_revisions  (σ : z_S) (Q : Int32 → z_S → Prop) : Prop :=
  vp_in (3 : Int32) 1584 ∧ Q (zg_i σ 74 (3 : Int32).toNatClampNeg) σ
set_option maxHeartbeats 4000000 in
set_option maxRecDepth 100000 in
theorem c_X6_revisions {l : Launch} {D : va_G} {cI cJ cM cS : ClassId} {n0 : Nat}  {σ : z_S} {Q : Int32 → z_S → Prop} (hf : w_X6_revisions  σ Q) : z_ci l D cI cJ cM cS n0 yX6_revisions cX6_revisions 1 .int rm_X6_revisions 0 0 [.ref (n0 + 73)] σ Q := by
  refine z_ofi (by decide +kernel) (Nat.le_of_ble_eq_true rfl) (fun p e s m args below meth c hX hY => ?_)
  unfold w_X6_revisions at hf
  refine zt_L (L' := [(0, .ref (n0 + 73))]) rfl ?_
  refine zt_aload_n hX 0 dX6_revisions_0 rfl rfl ?_
  refine zt_get_X6 hX (by decide) (zE_73 _ _) 0 (by decide) kw_654 rfl rfl dX6_revisions_1 ?_
  refine zt_iconst hX dX6_revisions_4 (v := (3 : Int32)) (by decide) ?_
  obtain ⟨h1, hf⟩ := hf
  refine zt_iaload hX dX6_revisions_5 (by decide) rfl h1 ?_
  exact zt_iret hX hY dX6_revisions_6 hf

theorem dX6_isRevision_0 : decode cX6_isRevision 0 = .ok (.iload_n 1, 1) := by decide +kernel
theorem dX6_isRevision_1 : decode cX6_isRevision 1 = .ok (.iconst 0, 1) := by decide +kernel
theorem dX6_isRevision_2 : decode cX6_isRevision 2 = .ok (.aload_n 0, 1) := by decide +kernel
theorem dX6_isRevision_3 : decode cX6_isRevision 3 = .ok (.getfield 7, 3) := by decide +kernel
theorem dX6_isRevision_6 : decode cX6_isRevision 6 = .ok (.iconst 3, 1) := by decide +kernel
theorem dX6_isRevision_7 : decode cX6_isRevision 7 = .ok (.iaload, 1) := by decide +kernel
theorem dX6_isRevision_8 : decode cX6_isRevision 8 = .ok (.iconst 1, 1) := by decide +kernel
theorem dX6_isRevision_9 : decode cX6_isRevision 9 = .ok (.isub, 1) := by decide +kernel
theorem dX6_isRevision_10 : decode cX6_isRevision 10 = .ok (.invokestatic 40, 3) := by decide +kernel
theorem dX6_isRevision_13 : decode cX6_isRevision 13 = .ok (.ireturn, 1) := by decide +kernel
abbrev rm_X6_isRevision : Room := { frames := 1, cells := 0, slots := 0, locals := 22 }
theorem hy_X6_isRevision : yX6_isRevision.cls ≠ "java/lang/invoke/MethodHandle" ∧ yX6_isRevision.cls ≠ "java/lang/invoke/VarHandle" ∧ (parseMethodDescriptor yX6_isRevision.desc).map (fun d => d.parameters.length) = some 1 := by decide +kernel
def w_X6_isRevision (a1 : Int32) (σ : z_S) (Q : Int32 → z_S → Prop) : Prop :=
  vp_in (3 : Int32) 1584 ∧ w_X6_in a1 (0 : Int32) ((zg_i σ 74 (3 : Int32).toNatClampNeg) - (1 : Int32)) σ (fun r2 σ3 => (r2 = 0 ∨ r2 = 1) ∧ Q r2 σ3)
set_option maxHeartbeats 4000000 in
set_option maxRecDepth 100000 in
theorem c_X6_isRevision {l : Launch} {D : va_G} {cI cJ cM cS : ClassId} {n0 : Nat} {a1 : Int32} {σ : z_S} {Q : Int32 → z_S → Prop} (hf : w_X6_isRevision a1 σ Q) : z_ci l D cI cJ cM cS n0 yX6_isRevision cX6_isRevision 2 .boolean rm_X6_isRevision 0 0 [.ref (n0 + 73), .int a1] σ Q := by
  refine z_ofi (by decide +kernel) (Nat.le_of_ble_eq_true rfl) (fun p e s m args below meth c hX hY => ?_)
  unfold w_X6_isRevision at hf
  refine zt_L (L' := [(0, .ref (n0 + 73)), (1, .int a1)]) rfl ?_
  refine zt_iload_n hX 1 dX6_isRevision_0 rfl rfl ?_
  refine zt_iconst hX dX6_isRevision_1 (v := (0 : Int32)) (by decide) ?_
  refine zt_aload_n hX 0 dX6_isRevision_2 rfl rfl ?_
  refine zt_get_X6 hX (by decide) (zE_73 _ _) 0 (by decide) kw_654 rfl rfl dX6_isRevision_3 ?_
  refine zt_iconst hX dX6_isRevision_6 (v := (3 : Int32)) (by decide) ?_
  obtain ⟨h1, hf⟩ := hf
  refine zt_iaload hX dX6_isRevision_7 (by decide) rfl h1 ?_
  refine zt_iconst hX dX6_isRevision_8 (v := (1 : Int32)) (by decide) ?_
  refine zt_isub hX dX6_isRevision_9 ?_
  refine zt_calliS hX hY (av := [.int a1, .int (0 : Int32), .int ((zg_i σ 74 (3 : Int32).toNatClampNeg) - (1 : Int32))]) (c_X6_in hf) dX6_isRevision_10 rfl kw_702 kw_703 kw_67 kw_704 ⟨rfl, rfl⟩ hy_X6_in ⟨by decide, by decide⟩ ⟨by decide, by decide⟩ (Nat.le_of_ble_eq_true rfl) (fun r2 σ3 hf => ?_)
  exact zt_zret hX hY dX6_isRevision_13 hf

theorem dX6_kept_0 : decode cX6_kept 0 = .ok (.aload_n 0, 1) := by decide +kernel
theorem dX6_kept_1 : decode cX6_kept 1 = .ok (.getfield 7, 3) := by decide +kernel
theorem dX6_kept_4 : decode cX6_kept 4 = .ok (.sipush 184, 3) := by decide +kernel
theorem dX6_kept_7 : decode cX6_kept 7 = .ok (.bipush 10, 2) := by decide +kernel
theorem dX6_kept_9 : decode cX6_kept 9 = .ok (.iload_n 1, 1) := by decide +kernel
theorem dX6_kept_10 : decode cX6_kept 10 = .ok (.imul, 1) := by decide +kernel
theorem dX6_kept_11 : decode cX6_kept 11 = .ok (.iadd, 1) := by decide +kernel
theorem dX6_kept_12 : decode cX6_kept 12 = .ok (.iload_n 2, 1) := by decide +kernel
theorem dX6_kept_13 : decode cX6_kept 13 = .ok (.iadd, 1) := by decide +kernel
theorem dX6_kept_14 : decode cX6_kept 14 = .ok (.iaload, 1) := by decide +kernel
theorem dX6_kept_15 : decode cX6_kept 15 = .ok (.ireturn, 1) := by decide +kernel
abbrev rm_X6_kept : Room := { frames := 0, cells := 0, slots := 0, locals := 0 }
theorem hy_X6_kept : yX6_kept.cls ≠ "java/lang/invoke/MethodHandle" ∧ yX6_kept.cls ≠ "java/lang/invoke/VarHandle" ∧ (parseMethodDescriptor yX6_kept.desc).map (fun d => d.parameters.length) = some 2 := by decide +kernel
def w_X6_kept (a1 : Int32) (a2 : Int32) (σ : z_S) (Q : Int32 → z_S → Prop) : Prop :=
  vp_in (((184 : Int32) + ((10 : Int32) * a1)) + a2) 1584 ∧ Q (zg_i σ 74 (((184 : Int32) + ((10 : Int32) * a1)) + a2).toNatClampNeg) σ
set_option maxHeartbeats 4000000 in
set_option maxRecDepth 100000 in
theorem c_X6_kept {l : Launch} {D : va_G} {cI cJ cM cS : ClassId} {n0 : Nat} {a1 : Int32} {a2 : Int32} {σ : z_S} {Q : Int32 → z_S → Prop} (hf : w_X6_kept a1 a2 σ Q) : z_ci l D cI cJ cM cS n0 yX6_kept cX6_kept 3 .int rm_X6_kept 0 0 [.ref (n0 + 73), .int a1, .int a2] σ Q := by
  refine z_ofi (by decide +kernel) (Nat.le_of_ble_eq_true rfl) (fun p e s m args below meth c hX hY => ?_)
  unfold w_X6_kept at hf
  refine zt_L (L' := [(0, .ref (n0 + 73)), (1, .int a1), (2, .int a2)]) rfl ?_
  refine zt_aload_n hX 0 dX6_kept_0 rfl rfl ?_
  refine zt_get_X6 hX (by decide) (zE_73 _ _) 0 (by decide) kw_654 rfl rfl dX6_kept_1 ?_
  refine zt_sipush hX dX6_kept_4 (v := (184 : Int32)) (by decide) ?_
  refine zt_bipush hX dX6_kept_7 (v := (10 : Int32)) (by decide) ?_
  refine zt_iload_n hX 1 dX6_kept_9 rfl rfl ?_
  refine zt_imul hX dX6_kept_10 ?_
  refine zt_iadd hX dX6_kept_11 ?_
  refine zt_iload_n hX 2 dX6_kept_12 rfl rfl ?_
  refine zt_iadd hX dX6_kept_13 ?_
  obtain ⟨h1, hf⟩ := hf
  refine zt_iaload hX dX6_kept_14 (by decide) rfl h1 ?_
  exact zt_iret hX hY dX6_kept_15 hf

theorem dX6_billOf_0 : decode cX6_billOf 0 = .ok (.aload_n 0, 1) := by decide +kernel
theorem dX6_billOf_1 : decode cX6_billOf 1 = .ok (.iload_n 1, 1) := by decide +kernel
theorem dX6_billOf_2 : decode cX6_billOf 2 = .ok (.invokevirtual 165, 3) := by decide +kernel
theorem dX6_billOf_5 : decode cX6_billOf 5 = .ok (.ifCond .eq 20, 3) := by decide +kernel
theorem dX6_billOf_8 : decode cX6_billOf 8 = .ok (.aload_n 0, 1) := by decide +kernel
theorem dX6_billOf_9 : decode cX6_billOf 9 = .ok (.iload_n 2, 1) := by decide +kernel
theorem dX6_billOf_10 : decode cX6_billOf 10 = .ok (.invokevirtual 53, 3) := by decide +kernel
theorem dX6_billOf_13 : decode cX6_billOf 13 = .ok (.ifCond .eq 12, 3) := by decide +kernel
theorem dX6_billOf_16 : decode cX6_billOf 16 = .ok (.aload_n 0, 1) := by decide +kernel
theorem dX6_billOf_17 : decode cX6_billOf 17 = .ok (.iload_n 1, 1) := by decide +kernel
theorem dX6_billOf_18 : decode cX6_billOf 18 = .ok (.iload_n 2, 1) := by decide +kernel
theorem dX6_billOf_19 : decode cX6_billOf 19 = .ok (.invokevirtual 168, 3) := by decide +kernel
theorem dX6_billOf_22 : decode cX6_billOf 22 = .ok (.goto 5, 3) := by decide +kernel
theorem dX6_billOf_25 : decode cX6_billOf 25 = .ok (.ldc 57, 2) := by decide +kernel
theorem dX6_billOf_27 : decode cX6_billOf 27 = .ok (.ireturn, 1) := by decide +kernel
abbrev rm_X6_billOf : Room := { frames := 2, cells := 0, slots := 0, locals := 43 }
theorem hy_X6_billOf : yX6_billOf.cls ≠ "java/lang/invoke/MethodHandle" ∧ yX6_billOf.cls ≠ "java/lang/invoke/VarHandle" ∧ (parseMethodDescriptor yX6_billOf.desc).map (fun d => d.parameters.length) = some 2 := by decide +kernel
def w_X6_billOf (a1 : Int32) (a2 : Int32) (σ : z_S) (Q : Int32 → z_S → Prop) : Prop :=
  w_X6_isRevision a1 σ (fun r1 σ2 => if r1 = 0 then (Q (-2000000001 : Int32) σ2) else (w_X6_isMeter a2 σ2 (fun r4 σ5 => if r4 = 0 then (Q (-2000000001 : Int32) σ5) else (w_X6_kept a1 a2 σ5 (fun r7 σ8 => Q r7 σ8)))))
set_option maxHeartbeats 4000000 in
set_option maxRecDepth 100000 in
theorem c_X6_billOf {l : Launch} {D : va_G} {cI cJ cM cS : ClassId} {n0 : Nat} {a1 : Int32} {a2 : Int32} {σ : z_S} {Q : Int32 → z_S → Prop} (hf : w_X6_billOf a1 a2 σ Q) : z_ci l D cI cJ cM cS n0 yX6_billOf cX6_billOf 3 .int rm_X6_billOf 0 0 [.ref (n0 + 73), .int a1, .int a2] σ Q := by
  refine z_ofi (by decide +kernel) (Nat.le_of_ble_eq_true rfl) (fun p e s m args below meth c hX hY => ?_)
  unfold w_X6_billOf at hf
  refine zt_L (L' := [(0, .ref (n0 + 73)), (1, .int a1), (2, .int a2)]) rfl ?_
  refine zt_aload_n hX 0 dX6_billOf_0 rfl rfl ?_
  refine zt_iload_n hX 1 dX6_billOf_1 rfl rfl ?_
  refine zt_calliV hX hY (av := [.int a1]) (c_X6_isRevision hf) dX6_billOf_2 rfl kw_963 kw_965 kw_52 kw_67 kw_966 ⟨rfl, rfl⟩ hy_X6_isRevision ⟨by decide, by decide⟩ ⟨by decide, by decide⟩ (Nat.le_of_ble_eq_true rfl) (by decide) (zE_73 _ _) rfl rfl (fun r1 σ2 hf => ?_)
  refine zt_if_eq hX dX6_billOf_5 (tgt := 25) (by decide) (fun c3 => ?_) (fun c3 => ?_)
  · replace hf := z_pos hf c3
    refine zt_ldc hX dX6_billOf_25 kw_705 ?_
    exact zt_iret hX hY dX6_billOf_27 hf
  · replace hf := z_neg hf c3
    refine zt_aload_n hX 0 dX6_billOf_8 rfl rfl ?_
    refine zt_iload_n hX 2 dX6_billOf_9 rfl rfl ?_
    refine zt_calliV hX hY (av := [.int a2]) (c_X6_isMeter hf) dX6_billOf_10 rfl kw_698 kw_700 kw_20 kw_67 kw_701 ⟨rfl, rfl⟩ hy_X6_isMeter ⟨by decide, by decide⟩ ⟨by decide, by decide⟩ (Nat.le_of_ble_eq_true rfl) (by decide) (zE_73 _ _) rfl rfl (fun r4 σ5 hf => ?_)
    refine zt_if_eq hX dX6_billOf_13 (tgt := 25) (by decide) (fun c6 => ?_) (fun c6 => ?_)
    · replace hf := z_pos hf c6
      refine zt_ldc hX dX6_billOf_25 kw_705 ?_
      exact zt_iret hX hY dX6_billOf_27 hf
    · replace hf := z_neg hf c6
      refine zt_aload_n hX 0 dX6_billOf_16 rfl rfl ?_
      refine zt_iload_n hX 1 dX6_billOf_17 rfl rfl ?_
      refine zt_iload_n hX 2 dX6_billOf_18 rfl rfl ?_
      refine zt_calliV hX hY (av := [.int a1, .int a2]) (c_X6_kept hf) dX6_billOf_19 rfl kw_967 kw_969 kw_53 kw_67 kw_970 ⟨rfl, rfl⟩ hy_X6_kept ⟨by decide, by decide⟩ ⟨by decide, by decide⟩ (Nat.le_of_ble_eq_true rfl) (by decide) (zE_73 _ _) rfl rfl (fun r7 σ8 hf => ?_)
      refine zt_goto hX dX6_billOf_22 (tgt := 27) (by decide) ?_
      exact zt_iret hX hY dX6_billOf_27 hf

theorem dX6_changed_0 : decode cX6_changed 0 = .ok (.aload_n 0, 1) := by decide +kernel
theorem dX6_changed_1 : decode cX6_changed 1 = .ok (.iload_n 1, 1) := by decide +kernel
theorem dX6_changed_2 : decode cX6_changed 2 = .ok (.invokevirtual 165, 3) := by decide +kernel
theorem dX6_changed_5 : decode cX6_changed 5 = .ok (.ifCond .eq 19, 3) := by decide +kernel
theorem dX6_changed_8 : decode cX6_changed 8 = .ok (.aload_n 0, 1) := by decide +kernel
theorem dX6_changed_9 : decode cX6_changed 9 = .ok (.iload_n 2, 1) := by decide +kernel
theorem dX6_changed_10 : decode cX6_changed 10 = .ok (.invokevirtual 165, 3) := by decide +kernel
theorem dX6_changed_13 : decode cX6_changed 13 = .ok (.ifCond .eq 11, 3) := by decide +kernel
theorem dX6_changed_16 : decode cX6_changed 16 = .ok (.aload_n 0, 1) := by decide +kernel
theorem dX6_changed_17 : decode cX6_changed 17 = .ok (.iload_n 3, 1) := by decide +kernel
theorem dX6_changed_18 : decode cX6_changed 18 = .ok (.invokevirtual 53, 3) := by decide +kernel
theorem dX6_changed_21 : decode cX6_changed 21 = .ok (.ifCond .ne 6, 3) := by decide +kernel
theorem dX6_changed_24 : decode cX6_changed 24 = .ok (.ldc 57, 2) := by decide +kernel
theorem dX6_changed_26 : decode cX6_changed 26 = .ok (.ireturn, 1) := by decide +kernel
theorem dX6_changed_27 : decode cX6_changed 27 = .ok (.aload_n 0, 1) := by decide +kernel
theorem dX6_changed_28 : decode cX6_changed 28 = .ok (.iload_n 1, 1) := by decide +kernel
theorem dX6_changed_29 : decode cX6_changed 29 = .ok (.iload_n 3, 1) := by decide +kernel
theorem dX6_changed_30 : decode cX6_changed 30 = .ok (.invokevirtual 168, 3) := by decide +kernel
theorem dX6_changed_33 : decode cX6_changed 33 = .ok (.ldc 48, 2) := by decide +kernel
theorem dX6_changed_35 : decode cX6_changed 35 = .ok (.if_icmp .ne 7, 3) := by decide +kernel
theorem dX6_changed_38 : decode cX6_changed 38 = .ok (.iconst 0, 1) := by decide +kernel
theorem dX6_changed_39 : decode cX6_changed 39 = .ok (.goto 9, 3) := by decide +kernel
theorem dX6_changed_42 : decode cX6_changed 42 = .ok (.aload_n 0, 1) := by decide +kernel
theorem dX6_changed_43 : decode cX6_changed 43 = .ok (.iload_n 1, 1) := by decide +kernel
theorem dX6_changed_44 : decode cX6_changed 44 = .ok (.iload_n 3, 1) := by decide +kernel
theorem dX6_changed_45 : decode cX6_changed 45 = .ok (.invokevirtual 168, 3) := by decide +kernel
theorem dX6_changed_48 : decode cX6_changed 48 = .ok (.istore 4, 2) := by decide +kernel
theorem dX6_changed_50 : decode cX6_changed 50 = .ok (.aload_n 0, 1) := by decide +kernel
theorem dX6_changed_51 : decode cX6_changed 51 = .ok (.iload_n 2, 1) := by decide +kernel
theorem dX6_changed_52 : decode cX6_changed 52 = .ok (.iload_n 3, 1) := by decide +kernel
theorem dX6_changed_53 : decode cX6_changed 53 = .ok (.invokevirtual 168, 3) := by decide +kernel
theorem dX6_changed_56 : decode cX6_changed 56 = .ok (.ldc 48, 2) := by decide +kernel
theorem dX6_changed_58 : decode cX6_changed 58 = .ok (.if_icmp .ne 7, 3) := by decide +kernel
theorem dX6_changed_61 : decode cX6_changed 61 = .ok (.iconst 0, 1) := by decide +kernel
theorem dX6_changed_62 : decode cX6_changed 62 = .ok (.goto 9, 3) := by decide +kernel
theorem dX6_changed_65 : decode cX6_changed 65 = .ok (.aload_n 0, 1) := by decide +kernel
theorem dX6_changed_66 : decode cX6_changed 66 = .ok (.iload_n 2, 1) := by decide +kernel
theorem dX6_changed_67 : decode cX6_changed 67 = .ok (.iload_n 3, 1) := by decide +kernel
theorem dX6_changed_68 : decode cX6_changed 68 = .ok (.invokevirtual 168, 3) := by decide +kernel
theorem dX6_changed_71 : decode cX6_changed 71 = .ok (.istore 5, 2) := by decide +kernel
theorem dX6_changed_73 : decode cX6_changed 73 = .ok (.iload 5, 2) := by decide +kernel
theorem dX6_changed_75 : decode cX6_changed 75 = .ok (.iload 4, 2) := by decide +kernel
theorem dX6_changed_77 : decode cX6_changed 77 = .ok (.isub, 1) := by decide +kernel
theorem dX6_changed_78 : decode cX6_changed 78 = .ok (.ireturn, 1) := by decide +kernel
abbrev rm_X6_changed : Room := { frames := 2, cells := 0, slots := 0, locals := 43 }
theorem hy_X6_changed : yX6_changed.cls ≠ "java/lang/invoke/MethodHandle" ∧ yX6_changed.cls ≠ "java/lang/invoke/VarHandle" ∧ (parseMethodDescriptor yX6_changed.desc).map (fun d => d.parameters.length) = some 3 := by decide +kernel
def w_X6_changed_48  (Q : Int32 → z_S → Prop) (x2 : Int32) (x3 : Int32) (s0 : Int32) (σ : z_S) : Prop :=
  w_X6_kept x2 x3 σ (fun r15 σ16 => if r15 = (-2000000000 : Int32) then (Q ((0 : Int32) - s0) σ16) else (w_X6_kept x2 x3 σ16 (fun r18 σ19 => Q (r18 - s0) σ19)))
def w_X6_changed (a1 : Int32) (a2 : Int32) (a3 : Int32) (σ : z_S) (Q : Int32 → z_S → Prop) : Prop :=
  w_X6_isRevision a1 σ (fun r1 σ2 => if r1 = 0 then (Q (-2000000001 : Int32) σ2) else (w_X6_isRevision a2 σ2 (fun r4 σ5 => if r4 = 0 then (Q (-2000000001 : Int32) σ5) else (w_X6_isMeter a3 σ5 (fun r7 σ8 => if r7 = 0 then (Q (-2000000001 : Int32) σ8) else (w_X6_kept a1 a3 σ8 (fun r10 σ11 => if r10 = (-2000000000 : Int32) then (w_X6_changed_48 Q a2 a3 (0 : Int32) σ11) else (w_X6_kept a1 a3 σ11 (fun r13 σ14 => w_X6_changed_48 Q a2 a3 r13 σ14)))))))))
set_option maxHeartbeats 4000000 in
set_option maxRecDepth 100000 in
theorem t_X6_changed_48 {l : Launch} {D : va_G} {cI cJ cM cS : ClassId} {n0 : Nat} {p : Program} {e : Env} {s : State} {m : MethodId} {args : Array Value} {below : List Frame} {meth : Method} {c : Code}  {Q : Int32 → z_S → Prop} (hX : z_X D cI cJ cM cS p s m args c cX6_changed 6 yX6_changed.cls) (hY : z_Y s meth (some .int))  (x2 : Int32) (x3 : Int32) (s0 : Int32) (σ : z_S) (hf : w_X6_changed_48  Q x2 x3 s0 σ) : z_t D cI cJ cM cS n0 p l e rm_X6_changed s m args below meth c 6 (MQ below (va_Qi Q (fun u t => z_Bq D cI cJ cM cS n0 u t) (z_Ab n0)) args s 0 0 (z_Ab n0)) 0 0 48 [(0, .ref (n0 + 73)), (2, .int x2), (3, .int x3)] [.int s0] σ := by
  unfold w_X6_changed_48 at hf
  refine zt_istore (L' := [(4, .int s0), (0, .ref (n0 + 73)), (2, .int x2), (3, .int x3)]) hX dX6_changed_48 (by decide) rfl ?_
  refine zt_aload_n hX 1 dX6_changed_50 rfl rfl ?_
  refine zt_iload_n hX 2 dX6_changed_51 rfl rfl ?_
  refine zt_iload_n hX 3 dX6_changed_52 rfl rfl ?_
  refine zt_calliV hX hY (av := [.int x2, .int x3]) (c_X6_kept hf) dX6_changed_53 rfl kw_967 kw_969 kw_53 kw_67 kw_970 ⟨rfl, rfl⟩ hy_X6_kept ⟨by decide, by decide⟩ ⟨by decide, by decide⟩ (Nat.le_of_ble_eq_true rfl) (by decide) (zE_73 _ _) rfl rfl (fun r15 σ16 hf => ?_)
  refine zt_ldc hX dX6_changed_56 kw_715 ?_
  refine zt_icmp_ne hX dX6_changed_58 (tgt := 65) (by decide) (fun c17 => ?_) (fun c17 => ?_)
  · replace hf := z_neg hf c17
    refine zt_aload_n hX 1 dX6_changed_65 rfl rfl ?_
    refine zt_iload_n hX 2 dX6_changed_66 rfl rfl ?_
    refine zt_iload_n hX 3 dX6_changed_67 rfl rfl ?_
    refine zt_calliV hX hY (av := [.int x2, .int x3]) (c_X6_kept hf) dX6_changed_68 rfl kw_967 kw_969 kw_53 kw_67 kw_970 ⟨rfl, rfl⟩ hy_X6_kept ⟨by decide, by decide⟩ ⟨by decide, by decide⟩ (Nat.le_of_ble_eq_true rfl) (by decide) (zE_73 _ _) rfl rfl (fun r18 σ19 hf => ?_)
    refine zt_istore (L' := [(5, .int r18), (4, .int s0), (0, .ref (n0 + 73)), (2, .int x2), (3, .int x3)]) hX dX6_changed_71 (by decide) rfl ?_
    refine zt_iload hX 0 dX6_changed_73 rfl ?_
    refine zt_iload hX 1 dX6_changed_75 rfl ?_
    refine zt_isub hX dX6_changed_77 ?_
    exact zt_iret hX hY dX6_changed_78 hf
  · replace hf := z_pos hf c17
    refine zt_iconst hX dX6_changed_61 (v := (0 : Int32)) (by decide) ?_
    refine zt_goto hX dX6_changed_62 (tgt := 71) (by decide) ?_
    refine zt_istore (L' := [(5, .int (0 : Int32)), (4, .int s0), (0, .ref (n0 + 73)), (2, .int x2), (3, .int x3)]) hX dX6_changed_71 (by decide) rfl ?_
    refine zt_iload hX 0 dX6_changed_73 rfl ?_
    refine zt_iload hX 1 dX6_changed_75 rfl ?_
    refine zt_isub hX dX6_changed_77 ?_
    exact zt_iret hX hY dX6_changed_78 hf
set_option maxHeartbeats 4000000 in
set_option maxRecDepth 100000 in
theorem c_X6_changed {l : Launch} {D : va_G} {cI cJ cM cS : ClassId} {n0 : Nat} {a1 : Int32} {a2 : Int32} {a3 : Int32} {σ : z_S} {Q : Int32 → z_S → Prop} (hf : w_X6_changed a1 a2 a3 σ Q) : z_ci l D cI cJ cM cS n0 yX6_changed cX6_changed 6 .int rm_X6_changed 0 0 [.ref (n0 + 73), .int a1, .int a2, .int a3] σ Q := by
  refine z_ofi (by decide +kernel) (Nat.le_of_ble_eq_true rfl) (fun p e s m args below meth c hX hY => ?_)
  unfold w_X6_changed at hf
  refine zt_L (L' := [(0, .ref (n0 + 73)), (1, .int a1), (2, .int a2), (3, .int a3)]) rfl ?_
  refine zt_aload_n hX 0 dX6_changed_0 rfl rfl ?_
  refine zt_iload_n hX 1 dX6_changed_1 rfl rfl ?_
  refine zt_calliV hX hY (av := [.int a1]) (c_X6_isRevision hf) dX6_changed_2 rfl kw_963 kw_965 kw_52 kw_67 kw_966 ⟨rfl, rfl⟩ hy_X6_isRevision ⟨by decide, by decide⟩ ⟨by decide, by decide⟩ (Nat.le_of_ble_eq_true rfl) (by decide) (zE_73 _ _) rfl rfl (fun r1 σ2 hf => ?_)
  refine zt_if_eq hX dX6_changed_5 (tgt := 24) (by decide) (fun c3 => ?_) (fun c3 => ?_)
  · replace hf := z_pos hf c3
    refine zt_ldc hX dX6_changed_24 kw_705 ?_
    exact zt_iret hX hY dX6_changed_26 hf
  · replace hf := z_neg hf c3
    refine zt_aload_n hX 0 dX6_changed_8 rfl rfl ?_
    refine zt_iload_n hX 2 dX6_changed_9 rfl rfl ?_
    refine zt_calliV hX hY (av := [.int a2]) (c_X6_isRevision hf) dX6_changed_10 rfl kw_963 kw_965 kw_52 kw_67 kw_966 ⟨rfl, rfl⟩ hy_X6_isRevision ⟨by decide, by decide⟩ ⟨by decide, by decide⟩ (Nat.le_of_ble_eq_true rfl) (by decide) (zE_73 _ _) rfl rfl (fun r4 σ5 hf => ?_)
    refine zt_if_eq hX dX6_changed_13 (tgt := 24) (by decide) (fun c6 => ?_) (fun c6 => ?_)
    · replace hf := z_pos hf c6
      refine zt_ldc hX dX6_changed_24 kw_705 ?_
      exact zt_iret hX hY dX6_changed_26 hf
    · replace hf := z_neg hf c6
      refine zt_aload_n hX 0 dX6_changed_16 rfl rfl ?_
      refine zt_iload_n hX 3 dX6_changed_17 rfl rfl ?_
      refine zt_calliV hX hY (av := [.int a3]) (c_X6_isMeter hf) dX6_changed_18 rfl kw_698 kw_700 kw_20 kw_67 kw_701 ⟨rfl, rfl⟩ hy_X6_isMeter ⟨by decide, by decide⟩ ⟨by decide, by decide⟩ (Nat.le_of_ble_eq_true rfl) (by decide) (zE_73 _ _) rfl rfl (fun r7 σ8 hf => ?_)
      refine zt_if_ne hX dX6_changed_21 (tgt := 27) (by decide) (fun c9 => ?_) (fun c9 => ?_)
      · replace hf := z_neg hf c9
        refine zt_aload_n hX 0 dX6_changed_27 rfl rfl ?_
        refine zt_iload_n hX 1 dX6_changed_28 rfl rfl ?_
        refine zt_iload_n hX 3 dX6_changed_29 rfl rfl ?_
        refine zt_calliV hX hY (av := [.int a1, .int a3]) (c_X6_kept hf) dX6_changed_30 rfl kw_967 kw_969 kw_53 kw_67 kw_970 ⟨rfl, rfl⟩ hy_X6_kept ⟨by decide, by decide⟩ ⟨by decide, by decide⟩ (Nat.le_of_ble_eq_true rfl) (by decide) (zE_73 _ _) rfl rfl (fun r10 σ11 hf => ?_)
        refine zt_ldc hX dX6_changed_33 kw_715 ?_
        refine zt_icmp_ne hX dX6_changed_35 (tgt := 42) (by decide) (fun c12 => ?_) (fun c12 => ?_)
        · replace hf := z_neg hf c12
          refine zt_aload_n hX 0 dX6_changed_42 rfl rfl ?_
          refine zt_iload_n hX 1 dX6_changed_43 rfl rfl ?_
          refine zt_iload_n hX 3 dX6_changed_44 rfl rfl ?_
          refine zt_calliV hX hY (av := [.int a1, .int a3]) (c_X6_kept hf) dX6_changed_45 rfl kw_967 kw_969 kw_53 kw_67 kw_970 ⟨rfl, rfl⟩ hy_X6_kept ⟨by decide, by decide⟩ ⟨by decide, by decide⟩ (Nat.le_of_ble_eq_true rfl) (by decide) (zE_73 _ _) rfl rfl (fun r13 σ14 hf => ?_)
          exact zt_sub [0, 2, 3] rfl (t_X6_changed_48 hX hY _ _ _ _ hf)
        · replace hf := z_pos hf c12
          refine zt_iconst hX dX6_changed_38 (v := (0 : Int32)) (by decide) ?_
          refine zt_goto hX dX6_changed_39 (tgt := 48) (by decide) ?_
          exact zt_sub [0, 2, 3] rfl (t_X6_changed_48 hX hY _ _ _ _ hf)
      · replace hf := z_pos hf c9
        refine zt_ldc hX dX6_changed_24 kw_705 ?_
        exact zt_iret hX hY dX6_changed_26 hf
