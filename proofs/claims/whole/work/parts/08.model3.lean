/-! printed by wip/whole/mk.py: the functions that mirror the bytecode, and the contracts over them -/
theorem dX5_isNext_0 : decode cX5_isNext 0 = .ok (.aload_n 0, 1) := by decide +kernel
theorem dX5_isNext_1 : decode cX5_isNext 1 = .ok (.getfield 219, 3) := by decide +kernel
theorem dX5_isNext_4 : decode cX5_isNext 4 = .ok (.aload_n 0, 1) := by decide +kernel
theorem dX5_isNext_5 : decode cX5_isNext 5 = .ok (.getfield 216, 3) := by decide +kernel
theorem dX5_isNext_8 : decode cX5_isNext 8 = .ok (.if_icmp .ge 20, 3) := by decide +kernel
theorem dX5_isNext_11 : decode cX5_isNext 11 = .ok (.aload_n 0, 1) := by decide +kernel
theorem dX5_isNext_12 : decode cX5_isNext 12 = .ok (.getfield 46, 3) := by decide +kernel
theorem dX5_isNext_15 : decode cX5_isNext 15 = .ok (.aload_n 0, 1) := by decide +kernel
theorem dX5_isNext_16 : decode cX5_isNext 16 = .ok (.getfield 219, 3) := by decide +kernel
theorem dX5_isNext_19 : decode cX5_isNext 19 = .ok (.iaload, 1) := by decide +kernel
theorem dX5_isNext_20 : decode cX5_isNext 20 = .ok (.iload_n 1, 1) := by decide +kernel
theorem dX5_isNext_21 : decode cX5_isNext 21 = .ok (.if_icmp .ne 7, 3) := by decide +kernel
theorem dX5_isNext_24 : decode cX5_isNext 24 = .ok (.iconst 1, 1) := by decide +kernel
theorem dX5_isNext_25 : decode cX5_isNext 25 = .ok (.goto 4, 3) := by decide +kernel
theorem dX5_isNext_28 : decode cX5_isNext 28 = .ok (.iconst 0, 1) := by decide +kernel
theorem dX5_isNext_29 : decode cX5_isNext 29 = .ok (.ireturn, 1) := by decide +kernel
section
variable {p : Program} {l : Launch} {e : Env} {s : State} {m : MethodId} {args : Array Value} {below : List Frame} {meth : Method} {c : Code} {Q : State → Prop} {G : GG} {A : Nat → Prop} {q : Nat → Nat} {fr : va_W}
def f_X5_isNext (bTp : Nat → Int32) (yln : Int32) (ypl : Int32) (v1 : Int32) : Option (Int32) :=
  if yln ≤ ypl then
  some 0
  else
  if inb ypl 80 then
  if (bTp ypl.toNatClampNeg) = v1 then
  some 1
  else
  some 0
  else none
set_option maxHeartbeats 4000000 in
set_option maxRecDepth 100000 in
theorem k_X5_isNext {l : Launch} {G : GG} {q : Nat → Nat} {fr : va_W}  {yp : Int32} {ye : Int32} {yg : Int32} {bPo : Nat → Int32} {bTb : Nat → Int32} {wSh : Nat → Int64} {wTe : Nat → Int64} {wNx : Nat → Int64} {bOs : Nat → Int32} {bOn : Nat → Int32} {yop : Int32} {bSo : Nat → Int32} {bNu : Nat → Int32} {ytr : Int32} {yiw : Int32} {wMa : Nat → Int64} {wPr : Nat → Int64} {bTp : Nat → Int32} {yln : Int32} {ypl : Int32} {yfa : Int32} {wLi : Nat → Int64} {bSi : Nat → Int32} {yhp : Int32} {yhe : Int32} {yhg : Int32} {wHs : Nat → Int64} {yhi : Int32} {v1 : Int32} {z : Int32}  (h : f_X5_isNext bTp yln ypl v1 = some z) : Ct l G yX5_isNext cX5_isNext 2 (some .boolean) 0 0 [.ref (q 0), .int v1] (mW G q yp ye yg bPo bTb wSh wTe wNx bOs bOn yop bSo bNu ytr yiw wMa wPr bTp yln ypl yfa wLi bSi yhp yhe yhg wHs yhi ++ fr) (some (.int z)) (mW G q yp ye yg bPo bTb wSh wTe wNx bOs bOn yop bSo bNu ytr yiw wMa wPr bTp yln ypl yfa wLi bSi yhp yhe yhg wHs yhi ++ fr) := by
  refine Ct.of (by decide +kernel) (Nat.le_of_ble_eq_true rfl) trivial ?_
  intro p e s m args below meth c Q A ls F hw hA hE hl
  have hx := F.x
  have hb := F.b
  unfold f_X5_isNext at h
  obtain ⟨H, hH⟩ : ∃ H, H = s.heap := ⟨_, rfl⟩
  obtain ⟨locs, hlo⟩ : ∃ locs : List Loc, locs = [] := ⟨_, rfl⟩
  rw [← hH, ← hlo] at hw ⊢
  have hl : lv_has ls 2 [(0, .ref (q 0)), (1, .int v1)] := hl
  refine lv_aload_n hx hb dX5_isNext_0 rfl (lv_at hl 0 rfl) ?_
  refine gf_5_219 F hw dX5_isNext_1 ?_
  refine lv_aload_n hx hb dX5_isNext_4 rfl (lv_at hl 0 rfl) ?_
  refine gf_5_216 F hw dX5_isNext_5 ?_
  refine lv_icmp_ge (tgt := 28) hx hb dX5_isNext_8 (by decide) (fun c1 => ?_) (fun c1 => ?_)
  · replace h := stT c1 h
    refine lv_iconst (v := 0) hx hb dX5_isNext_28 (by decide) ?_
    obtain rfl := Option.some.inj h
    exact hE H locs _ ls hw (Or.inl rfl) dX5_isNext_29
  · replace h := stF c1 h
    refine lv_aload_n hx hb dX5_isNext_11 rfl (lv_at hl 0 rfl) ?_
    refine gf_5_46 F hw dX5_isNext_12 ?_
    refine lv_aload_n hx hb dX5_isNext_15 rfl (lv_at hl 0 rfl) ?_
    refine gf_5_219 F hw dX5_isNext_16 ?_
    obtain ⟨g2, h⟩ := stG h
    refine al_m12 F hw g2 dX5_isNext_19 ?_
    refine lv_iload_n hx hb dX5_isNext_20 rfl (lv_at hl 1 rfl) ?_
    refine lv_icmp_ne (tgt := 28) hx hb dX5_isNext_21 (by decide) (fun c3 => ?_) (fun c3 => ?_)
    · replace h := stF c3 h
      refine lv_iconst (v := 0) hx hb dX5_isNext_28 (by decide) ?_
      obtain rfl := Option.some.inj h
      exact hE H locs _ ls hw (Or.inl rfl) dX5_isNext_29
    · replace h := stT c3 h
      refine lv_iconst (v := 1) hx hb dX5_isNext_24 (by decide) ?_
      refine lv_goto (tgt := 29) hx hb dX5_isNext_25 (by decide) ?_
      obtain rfl := Option.some.inj h
      exact hE H locs _ ls hw (Or.inr rfl) dX5_isNext_29
end
theorem dX5_isFigure_0 : decode cX5_isFigure 0 = .ok (.aload_n 0, 1) := by decide +kernel
theorem dX5_isFigure_1 : decode cX5_isFigure 1 = .ok (.getfield 219, 3) := by decide +kernel
theorem dX5_isFigure_4 : decode cX5_isFigure 4 = .ok (.aload_n 0, 1) := by decide +kernel
theorem dX5_isFigure_5 : decode cX5_isFigure 5 = .ok (.getfield 216, 3) := by decide +kernel
theorem dX5_isFigure_8 : decode cX5_isFigure 8 = .ok (.if_icmp .ge 29, 3) := by decide +kernel
theorem dX5_isFigure_11 : decode cX5_isFigure 11 = .ok (.aload_n 0, 1) := by decide +kernel
theorem dX5_isFigure_12 : decode cX5_isFigure 12 = .ok (.getfield 46, 3) := by decide +kernel
theorem dX5_isFigure_15 : decode cX5_isFigure 15 = .ok (.aload_n 0, 1) := by decide +kernel
theorem dX5_isFigure_16 : decode cX5_isFigure 16 = .ok (.getfield 219, 3) := by decide +kernel
theorem dX5_isFigure_19 : decode cX5_isFigure 19 = .ok (.iaload, 1) := by decide +kernel
theorem dX5_isFigure_20 : decode cX5_isFigure 20 = .ok (.i2l, 1) := by decide +kernel
theorem dX5_isFigure_21 : decode cX5_isFigure 21 = .ok (.ldc2_w 222, 3) := by decide +kernel
theorem dX5_isFigure_24 : decode cX5_isFigure 24 = .ok (.ldc2_w 224, 3) := by decide +kernel
theorem dX5_isFigure_27 : decode cX5_isFigure 27 = .ok (.invokestatic 90, 3) := by decide +kernel
theorem dX5_isFigure_30 : decode cX5_isFigure 30 = .ok (.ifCond .eq 7, 3) := by decide +kernel
theorem dX5_isFigure_33 : decode cX5_isFigure 33 = .ok (.iconst 1, 1) := by decide +kernel
theorem dX5_isFigure_34 : decode cX5_isFigure 34 = .ok (.goto 4, 3) := by decide +kernel
theorem dX5_isFigure_37 : decode cX5_isFigure 37 = .ok (.iconst 0, 1) := by decide +kernel
theorem dX5_isFigure_38 : decode cX5_isFigure 38 = .ok (.ireturn, 1) := by decide +kernel
section
variable {p : Program} {l : Launch} {e : Env} {s : State} {m : MethodId} {args : Array Value} {below : List Frame} {meth : Method} {c : Code} {Q : State → Prop} {G : GG} {A : Nat → Prop} {q : Nat → Nat} {fr : va_W}
def f_X5_isFigure (bTp : Nat → Int32) (yln : Int32) (ypl : Int32) : Option (Int32) :=
  if yln ≤ ypl then
  some 0
  else
  if inb ypl 80 then
  (f_X5_in ((bTp ypl.toNatClampNeg).toInt64) 48 57).bind fun z3 =>
  if z3 = 0 then
  some 0
  else
  some 1
  else none
set_option maxHeartbeats 4000000 in
set_option maxRecDepth 100000 in
theorem k_X5_isFigure {l : Launch} {G : GG} {q : Nat → Nat} {fr : va_W}  {yp : Int32} {ye : Int32} {yg : Int32} {bPo : Nat → Int32} {bTb : Nat → Int32} {wSh : Nat → Int64} {wTe : Nat → Int64} {wNx : Nat → Int64} {bOs : Nat → Int32} {bOn : Nat → Int32} {yop : Int32} {bSo : Nat → Int32} {bNu : Nat → Int32} {ytr : Int32} {yiw : Int32} {wMa : Nat → Int64} {wPr : Nat → Int64} {bTp : Nat → Int32} {yln : Int32} {ypl : Int32} {yfa : Int32} {wLi : Nat → Int64} {bSi : Nat → Int32} {yhp : Int32} {yhe : Int32} {yhg : Int32} {wHs : Nat → Int64} {yhi : Int32}  {z : Int32}  (h : f_X5_isFigure bTp yln ypl = some z) : Ct l G yX5_isFigure cX5_isFigure 1 (some .boolean) 1 25 [.ref (q 0)] (mW G q yp ye yg bPo bTb wSh wTe wNx bOs bOn yop bSo bNu ytr yiw wMa wPr bTp yln ypl yfa wLi bSi yhp yhe yhg wHs yhi ++ fr) (some (.int z)) (mW G q yp ye yg bPo bTb wSh wTe wNx bOs bOn yop bSo bNu ytr yiw wMa wPr bTp yln ypl yfa wLi bSi yhp yhe yhg wHs yhi ++ fr) := by
  refine Ct.of (by decide +kernel) (Nat.le_of_ble_eq_true rfl) trivial ?_
  intro p e s m args below meth c Q A ls F hw hA hE hl
  have hx := F.x
  have hb := F.b
  unfold f_X5_isFigure at h
  obtain ⟨H, hH⟩ : ∃ H, H = s.heap := ⟨_, rfl⟩
  obtain ⟨locs, hlo⟩ : ∃ locs : List Loc, locs = [] := ⟨_, rfl⟩
  rw [← hH, ← hlo] at hw ⊢
  have hl : lv_has ls 1 [(0, .ref (q 0))] := hl
  refine lv_aload_n hx hb dX5_isFigure_0 rfl (lv_at hl 0 rfl) ?_
  refine gf_5_219 F hw dX5_isFigure_1 ?_
  refine lv_aload_n hx hb dX5_isFigure_4 rfl (lv_at hl 0 rfl) ?_
  refine gf_5_216 F hw dX5_isFigure_5 ?_
  refine lv_icmp_ge (tgt := 37) hx hb dX5_isFigure_8 (by decide) (fun c1 => ?_) (fun c1 => ?_)
  · replace h := stT c1 h
    refine lv_iconst (v := 0) hx hb dX5_isFigure_37 (by decide) ?_
    obtain rfl := Option.some.inj h
    exact hE H locs _ ls hw (Or.inl rfl) dX5_isFigure_38
  · replace h := stF c1 h
    refine lv_aload_n hx hb dX5_isFigure_11 rfl (lv_at hl 0 rfl) ?_
    refine gf_5_46 F hw dX5_isFigure_12 ?_
    refine lv_aload_n hx hb dX5_isFigure_15 rfl (lv_at hl 0 rfl) ?_
    refine gf_5_219 F hw dX5_isFigure_16 ?_
    obtain ⟨g2, h⟩ := stG h
    refine al_m12 F hw g2 dX5_isFigure_19 ?_
    refine lv_i2l (v := (bTp ypl.toNatClampNeg).toInt64) hx hb dX5_isFigure_20 rfl ?_
    refine lv_ldc2 (v := 48) hx hb F.ow (F.ts _ kc_5_222) dX5_isFigure_21 ?_
    refine lv_ldc2 (v := 57) hx hb F.ow (F.ts _ kc_5_224) dX5_isFigure_24 ?_
    obtain ⟨z3, hz3, h⟩ := stB h
    refine ctS (av := [.long ((bTp ypl.toNatClampNeg).toInt64), .long 48, .long 57]) (st0 := ([] : List Value)) (st1 := ([.int z3] : List Value)) F hw hA (k_X5_in hz3) kl_5_90 kd_X5_in rfl ⟨by decide, by decide⟩ hl.1 rfl (Nat.le_of_ble_eq_true rfl) dX5_isFigure_27 rfl (fun H locs hw => ?_)
    refine lv_if_eq (tgt := 37) hx hb dX5_isFigure_30 (by decide) (fun c4 => ?_) (fun c4 => ?_)
    · replace h := stT c4 h
      refine lv_iconst (v := 0) hx hb dX5_isFigure_37 (by decide) ?_
      obtain rfl := Option.some.inj h
      exact hE H locs _ ls hw (Or.inl rfl) dX5_isFigure_38
    · replace h := stF c4 h
      refine lv_iconst (v := 1) hx hb dX5_isFigure_33 (by decide) ?_
      refine lv_goto (tgt := 38) hx hb dX5_isFigure_34 (by decide) ?_
      obtain rfl := Option.some.inj h
      exact hE H locs _ ls hw (Or.inr rfl) dX5_isFigure_38
end
theorem dX5_faulty_0 : decode cX5_faulty 0 = .ok (.aload_n 0, 1) := by decide +kernel
theorem dX5_faulty_1 : decode cX5_faulty 1 = .ok (.iload_n 1, 1) := by decide +kernel
theorem dX5_faulty_2 : decode cX5_faulty 2 = .ok (.putfield 226, 3) := by decide +kernel
theorem dX5_faulty_5 : decode cX5_faulty 5 = .ok (.aload_n 0, 1) := by decide +kernel
theorem dX5_faulty_6 : decode cX5_faulty 6 = .ok (.bipush 7, 2) := by decide +kernel
theorem dX5_faulty_8 : decode cX5_faulty 8 = .ok (.iload_n 1, 1) := by decide +kernel
theorem dX5_faulty_9 : decode cX5_faulty 9 = .ok (.invokevirtual 161, 3) := by decide +kernel
theorem dX5_faulty_12 : decode cX5_faulty 12 = .ok (.return_, 1) := by decide +kernel
section
variable {p : Program} {l : Launch} {e : Env} {s : State} {m : MethodId} {args : Array Value} {below : List Frame} {meth : Method} {c : Code} {Q : State → Prop} {G : GG} {A : Nat → Prop} {q : Nat → Nat} {fr : va_W}
def f_X5_faulty (bOs : Nat → Int32) (bOn : Nat → Int32) (yop : Int32) (bSo : Nat → Int32) (bNu : Nat → Int32) (ytr : Int32) (yiw : Int32) (yfa : Int32) (v1 : Int32) : Option ((Nat → Int32) × (Nat → Int32) × Int32 × Int32 × Int32) :=
  (f_X5_wrong bOs bOn yop bSo bNu ytr yiw 7 v1).bind fun z1 =>
  some (z1.1, z1.2.1, z1.2.2.1, z1.2.2.2, v1)
set_option maxHeartbeats 4000000 in
set_option maxRecDepth 100000 in
theorem k_X5_faulty {l : Launch} {G : GG} {q : Nat → Nat} {fr : va_W}  {yp : Int32} {ye : Int32} {yg : Int32} {bPo : Nat → Int32} {bTb : Nat → Int32} {wSh : Nat → Int64} {wTe : Nat → Int64} {wNx : Nat → Int64} {bOs : Nat → Int32} {bOn : Nat → Int32} {yop : Int32} {bSo : Nat → Int32} {bNu : Nat → Int32} {ytr : Int32} {yiw : Int32} {wMa : Nat → Int64} {wPr : Nat → Int64} {bTp : Nat → Int32} {yln : Int32} {ypl : Int32} {yfa : Int32} {wLi : Nat → Int64} {bSi : Nat → Int32} {yhp : Int32} {yhe : Int32} {yhg : Int32} {wHs : Nat → Int64} {yhi : Int32} {v1 : Int32} {z : (Nat → Int32) × (Nat → Int32) × Int32 × Int32 × Int32}  (h : f_X5_faulty bOs bOn yop bSo bNu ytr yiw yfa v1 = some z) : Ct l G yX5_faulty cX5_faulty 2 none 2 102 [.ref (q 0), .int v1] (mW G q yp ye yg bPo bTb wSh wTe wNx bOs bOn yop bSo bNu ytr yiw wMa wPr bTp yln ypl yfa wLi bSi yhp yhe yhg wHs yhi ++ fr) (none) (mW G q yp ye yg bPo bTb wSh wTe wNx bOs bOn yop z.1 z.2.1 z.2.2.1 z.2.2.2.1 wMa wPr bTp yln ypl z.2.2.2.2 wLi bSi yhp yhe yhg wHs yhi ++ fr) := by
  refine Ct.of (by decide +kernel) (Nat.le_of_ble_eq_true rfl) trivial ?_
  intro p e s m args below meth c Q A ls F hw hA hE hl
  have hx := F.x
  have hb := F.b
  unfold f_X5_faulty at h
  obtain ⟨H, hH⟩ : ∃ H, H = s.heap := ⟨_, rfl⟩
  obtain ⟨locs, hlo⟩ : ∃ locs : List Loc, locs = [] := ⟨_, rfl⟩
  rw [← hH, ← hlo] at hw ⊢
  have hl : lv_has ls 2 [(0, .ref (q 0)), (1, .int v1)] := hl
  refine lv_aload_n hx hb dX5_faulty_0 rfl (lv_at hl 0 rfl) ?_
  refine lv_iload_n hx hb dX5_faulty_1 rfl (lv_at hl 1 rfl) ?_
  refine pf_5_226 F hw dX5_faulty_2 (fun H locs hw => ?_)
  refine lv_aload_n hx hb dX5_faulty_5 rfl (lv_at hl 0 rfl) ?_
  refine lv_bipush (v := 7) hx hb dX5_faulty_6 (by decide) ?_
  refine lv_iload_n hx hb dX5_faulty_8 rfl (lv_at hl 1 rfl) ?_
  obtain ⟨z1, hz1, h⟩ := stB h
  refine ctV (av := [.int 7, .int v1]) (st0 := ([] : List Value)) (st1 := ([] : List Value)) F hw hA (k_X5_wrong hz1) kl_5_161 kd_X5_wrong rfl ⟨by decide, by decide⟩ 0 rfl rfl hl.1 rfl (Nat.le_of_ble_eq_true rfl) dX5_faulty_9 rfl (fun H locs hw => ?_)
  obtain rfl := Option.some.inj h
  exact hE H locs _ ls hw dX5_faulty_12
end
theorem dX5_figures_0 : decode cX5_figures 0 = .ok (.aload_n 0, 1) := by decide +kernel
theorem dX5_figures_1 : decode cX5_figures 1 = .ok (.invokevirtual 229, 3) := by decide +kernel
theorem dX5_figures_4 : decode cX5_figures 4 = .ok (.ifCond .ne 13, 3) := by decide +kernel
theorem dX5_figures_7 : decode cX5_figures 7 = .ok (.aload_n 0, 1) := by decide +kernel
theorem dX5_figures_8 : decode cX5_figures 8 = .ok (.aload_n 0, 1) := by decide +kernel
theorem dX5_figures_9 : decode cX5_figures 9 = .ok (.getfield 219, 3) := by decide +kernel
theorem dX5_figures_12 : decode cX5_figures 12 = .ok (.invokevirtual 233, 3) := by decide +kernel
theorem dX5_figures_15 : decode cX5_figures 15 = .ok (.iconst 0, 1) := by decide +kernel
theorem dX5_figures_16 : decode cX5_figures 16 = .ok (.ireturn, 1) := by decide +kernel
theorem dX5_figures_17 : decode cX5_figures 17 = .ok (.iconst 0, 1) := by decide +kernel
theorem dX5_figures_18 : decode cX5_figures 18 = .ok (.istore_n 2, 1) := by decide +kernel
theorem dX5_figures_19 : decode cX5_figures 19 = .ok (.iconst 0, 1) := by decide +kernel
theorem dX5_figures_20 : decode cX5_figures 20 = .ok (.istore_n 3, 1) := by decide +kernel
theorem dX5_figures_21 : decode cX5_figures 21 = .ok (.iload_n 3, 1) := by decide +kernel
theorem dX5_figures_22 : decode cX5_figures 22 = .ok (.iload_n 1, 1) := by decide +kernel
theorem dX5_figures_23 : decode cX5_figures 23 = .ok (.if_icmp .ge 44, 3) := by decide +kernel
theorem dX5_figures_26 : decode cX5_figures 26 = .ok (.aload_n 0, 1) := by decide +kernel
theorem dX5_figures_27 : decode cX5_figures 27 = .ok (.invokevirtual 229, 3) := by decide +kernel
theorem dX5_figures_30 : decode cX5_figures 30 = .ok (.ifCond .eq 37, 3) := by decide +kernel
theorem dX5_figures_33 : decode cX5_figures 33 = .ok (.bipush 10, 2) := by decide +kernel
theorem dX5_figures_35 : decode cX5_figures 35 = .ok (.iload_n 2, 1) := by decide +kernel
theorem dX5_figures_36 : decode cX5_figures 36 = .ok (.imul, 1) := by decide +kernel
theorem dX5_figures_37 : decode cX5_figures 37 = .ok (.aload_n 0, 1) := by decide +kernel
theorem dX5_figures_38 : decode cX5_figures 38 = .ok (.getfield 46, 3) := by decide +kernel
theorem dX5_figures_41 : decode cX5_figures 41 = .ok (.aload_n 0, 1) := by decide +kernel
theorem dX5_figures_42 : decode cX5_figures 42 = .ok (.getfield 219, 3) := by decide +kernel
theorem dX5_figures_45 : decode cX5_figures 45 = .ok (.iaload, 1) := by decide +kernel
theorem dX5_figures_46 : decode cX5_figures 46 = .ok (.iadd, 1) := by decide +kernel
theorem dX5_figures_47 : decode cX5_figures 47 = .ok (.bipush 48, 2) := by decide +kernel
theorem dX5_figures_49 : decode cX5_figures 49 = .ok (.isub, 1) := by decide +kernel
theorem dX5_figures_50 : decode cX5_figures 50 = .ok (.istore_n 2, 1) := by decide +kernel
theorem dX5_figures_51 : decode cX5_figures 51 = .ok (.aload_n 0, 1) := by decide +kernel
theorem dX5_figures_52 : decode cX5_figures 52 = .ok (.dup, 1) := by decide +kernel
theorem dX5_figures_53 : decode cX5_figures 53 = .ok (.getfield 219, 3) := by decide +kernel
theorem dX5_figures_56 : decode cX5_figures 56 = .ok (.iconst 1, 1) := by decide +kernel
theorem dX5_figures_57 : decode cX5_figures 57 = .ok (.iadd, 1) := by decide +kernel
theorem dX5_figures_58 : decode cX5_figures 58 = .ok (.putfield 219, 3) := by decide +kernel
theorem dX5_figures_61 : decode cX5_figures 61 = .ok (.iinc 3 1, 3) := by decide +kernel
theorem dX5_figures_64 : decode cX5_figures 64 = .ok (.goto (-43), 3) := by decide +kernel
theorem dX5_figures_67 : decode cX5_figures 67 = .ok (.iload_n 2, 1) := by decide +kernel
theorem dX5_figures_68 : decode cX5_figures 68 = .ok (.ireturn, 1) := by decide +kernel
section
variable {p : Program} {l : Launch} {e : Env} {s : State} {m : MethodId} {args : Array Value} {below : List Frame} {meth : Method} {c : Code} {Q : State → Prop} {G : GG} {A : Nat → Prop} {q : Nat → Nat} {fr : va_W}
def f_X5_figures_L21 (bOs : Nat → Int32) (bOn : Nat → Int32) (yop : Int32) (bTp : Nat → Int32) (yln : Int32) (v1 : Int32) : Nat → (Nat → Int32) → (Nat → Int32) → Int32 → Int32 → Int32 → Int32 → Int32 → Int32 → Option (Int32 × (Nat → Int32) × (Nat → Int32) × Int32 × Int32 × Int32 × Int32)
  | 0, _, _, _, _, _, _, _, _ => none
  | fu + 1, bSo, bNu, ytr, yiw, ypl, yfa, v2, v3 =>
    if v1 ≤ v3 then
    some (v2, bSo, bNu, ytr, yiw, ypl, yfa)
    else
    (f_X5_isFigure bTp yln ypl).bind fun z2 =>
    if z2 = 0 then
    some (v2, bSo, bNu, ytr, yiw, ypl, yfa)
    else
    if inb ypl 80 then
    f_X5_figures_L21 bOs bOn yop bTp yln v1 fu bSo bNu ytr yiw (ypl + 1) yfa (((10 * v2) + (bTp ypl.toNatClampNeg)) - 48) (v3 + 1)
    else none
set_option maxHeartbeats 4000000 in
set_option maxRecDepth 100000 in
theorem w_X5_figures_L21  {yp : Int32} {ye : Int32} {yg : Int32} {bPo : Nat → Int32} {bTb : Nat → Int32} {wSh : Nat → Int64} {wTe : Nat → Int64} {wNx : Nat → Int64} {bOs : Nat → Int32} {bOn : Nat → Int32} {yop : Int32} {wMa : Nat → Int64} {wPr : Nat → Int64} {bTp : Nat → Int32} {yln : Int32} {wLi : Nat → Int64} {bSi : Nat → Int32} {yhp : Int32} {yhe : Int32} {yhg : Int32} {wHs : Nat → Int64} {yhi : Int32} {v1 : Int32}  (F : Fx p s m args meth c cX5_figures 4 RX5 (some .int)) (hA : ∀ q, s.heap.size ≤ q → A q)   : ∀ (fu : Nat) (bSo : Nat → Int32) (bNu : Nat → Int32) (ytr : Int32) (yiw : Int32) (ypl : Int32) (yfa : Int32) (v2 : Int32) (v3 : Int32) (z : Int32 × (Nat → Int32) × (Nat → Int32) × Int32 × Int32 × Int32 × Int32), f_X5_figures_L21 bOs bOn yop bTp yln v1 fu bSo bNu ytr yiw ypl yfa v2 v3 = some z → Ends p l e (rmOf 3 123) s m args below meth c Q cX5_figures G A (some .int) (some (.int z.1)) (mW G q yp ye yg bPo bTb wSh wTe wNx bOs bOn yop z.2.1 z.2.2.1 z.2.2.2.1 z.2.2.2.2.1 wMa wPr bTp yln z.2.2.2.2.2.1 z.2.2.2.2.2.2 wLi bSi yhp yhe yhg wHs yhi ++ fr) → ∀ (H : Heap) (locs : List Loc) (ls : Array Slot), Wd G s A (mW G q yp ye yg bPo bTb wSh wTe wNx bOs bOn yop bSo bNu ytr yiw wMa wPr bTp yln ypl yfa wLi bSi yhp yhe yhg wHs yhi ++ fr) H locs → lv_has ls 4 [(0, .ref (q 0)), (1, .int v1), (2, .int v2), (3, .int v3)] → W p l e (rmOf 3 123) s m args below meth c H locs 0 0 Q (F0 m 21 ls []) := by
  have hx := F.x
  have hb := F.b
  intro fu
  induction fu with
  | zero =>
    intro bSo bNu ytr yiw ypl yfa v2 v3 z h
    cases (h : none = some z)
  | succ fu ih =>
    intro bSo bNu ytr yiw ypl yfa v2 v3 z h hE H locs ls hw hl
    rw [f_X5_figures_L21] at h
    refine lv_iload_n hx hb dX5_figures_21 rfl (lv_at hl 3 rfl) ?_
    refine lv_iload_n hx hb dX5_figures_22 rfl (lv_at hl 1 rfl) ?_
    refine lv_icmp_ge (tgt := 67) hx hb dX5_figures_23 (by decide) (fun c1 => ?_) (fun c1 => ?_)
    · replace h := stT c1 h
      refine lv_iload_n hx hb dX5_figures_67 rfl (lv_at hl 2 rfl) ?_
      obtain rfl := Option.some.inj h
      exact hE H locs _ ls hw dX5_figures_68
    · replace h := stF c1 h
      refine lv_aload_n hx hb dX5_figures_26 rfl (lv_at hl 0 rfl) ?_
      obtain ⟨z2, hz2, h⟩ := stB h
      refine ctV (av := []) (st0 := ([] : List Value)) (st1 := ([.int z2] : List Value)) F hw hA (k_X5_isFigure hz2) kl_5_229 kd_X5_isFigure rfl ⟨by decide, by decide⟩ 0 rfl rfl hl.1 rfl (Nat.le_of_ble_eq_true rfl) dX5_figures_27 rfl (fun H locs hw => ?_)
      refine lv_if_eq (tgt := 67) hx hb dX5_figures_30 (by decide) (fun c3 => ?_) (fun c3 => ?_)
      · replace h := stT c3 h
        refine lv_iload_n hx hb dX5_figures_67 rfl (lv_at hl 2 rfl) ?_
        obtain rfl := Option.some.inj h
        exact hE H locs _ ls hw dX5_figures_68
      · replace h := stF c3 h
        refine lv_bipush (v := 10) hx hb dX5_figures_33 (by decide) ?_
        refine lv_iload_n hx hb dX5_figures_35 rfl (lv_at hl 2 rfl) ?_
        refine lv_imul hx hb dX5_figures_36 ?_
        refine lv_aload_n hx hb dX5_figures_37 rfl (lv_at hl 0 rfl) ?_
        refine gf_5_46 F hw dX5_figures_38 ?_
        refine lv_aload_n hx hb dX5_figures_41 rfl (lv_at hl 0 rfl) ?_
        refine gf_5_219 F hw dX5_figures_42 ?_
        obtain ⟨g4, h⟩ := stG h
        refine al_m12 F hw g4 dX5_figures_45 ?_
        refine lv_iadd hx hb dX5_figures_46 ?_
        refine lv_bipush (v := 48) hx hb dX5_figures_47 (by decide) ?_
        refine lv_isub hx hb dX5_figures_49 ?_
        refine lv_istore_n (lv' := [(2, .int (((10 * v2) + (bTp ypl.toNatClampNeg)) - 48)), (0, .ref (q 0)), (1, .int v1), (3, .int v3)]) hx hb dX5_figures_50 rfl hl (by decide) rfl (fun ls hl => ?_)
        refine lv_aload_n hx hb dX5_figures_51 rfl (lv_at hl 1 rfl) ?_
        refine lv_dup hx hb dX5_figures_52 rfl ?_
        refine gf_5_219 F hw dX5_figures_53 ?_
        refine lv_iconst (v := 1) hx hb dX5_figures_56 (by decide) ?_
        refine lv_iadd hx hb dX5_figures_57 ?_
        refine pf_5_219 F hw dX5_figures_58 (fun H locs hw => ?_)
        refine lv_iinc (v := (v3 + 1)) (lv' := [(3, .int (v3 + 1)), (2, .int (((10 * v2) + (bTp ypl.toNatClampNeg)) - 48)), (0, .ref (q 0)), (1, .int v1)]) hx hb dX5_figures_61 hl (k := 3) rfl rfl (by decide) rfl (fun ls hl => ?_)
        refine lv_goto (tgt := 21) hx hb dX5_figures_64 (by decide) ?_
        exact ih _ _ _ _ _ _ _ _ z h hE H locs ls hw (lv_sub hl [2, 3, 1, 0] rfl)
def f_X5_figures (bOs : Nat → Int32) (bOn : Nat → Int32) (yop : Int32) (bSo : Nat → Int32) (bNu : Nat → Int32) (ytr : Int32) (yiw : Int32) (bTp : Nat → Int32) (yln : Int32) (ypl : Int32) (yfa : Int32) (v1 : Int32) : Option (Int32 × (Nat → Int32) × (Nat → Int32) × Int32 × Int32 × Int32 × Int32) :=
  (f_X5_isFigure bTp yln ypl).bind fun z1 =>
  if z1 = 0 then
  (f_X5_faulty bOs bOn yop bSo bNu ytr yiw yfa ypl).bind fun z3 =>
  some (0, z3.1, z3.2.1, z3.2.2.1, z3.2.2.2.1, ypl, z3.2.2.2.2)
  else
  f_X5_figures_L21 bOs bOn yop bTp yln v1 FU bSo bNu ytr yiw ypl yfa 0 0
set_option maxHeartbeats 4000000 in
set_option maxRecDepth 100000 in
theorem k_X5_figures {l : Launch} {G : GG} {q : Nat → Nat} {fr : va_W}  {yp : Int32} {ye : Int32} {yg : Int32} {bPo : Nat → Int32} {bTb : Nat → Int32} {wSh : Nat → Int64} {wTe : Nat → Int64} {wNx : Nat → Int64} {bOs : Nat → Int32} {bOn : Nat → Int32} {yop : Int32} {bSo : Nat → Int32} {bNu : Nat → Int32} {ytr : Int32} {yiw : Int32} {wMa : Nat → Int64} {wPr : Nat → Int64} {bTp : Nat → Int32} {yln : Int32} {ypl : Int32} {yfa : Int32} {wLi : Nat → Int64} {bSi : Nat → Int32} {yhp : Int32} {yhe : Int32} {yhg : Int32} {wHs : Nat → Int64} {yhi : Int32} {v1 : Int32} {z : Int32 × (Nat → Int32) × (Nat → Int32) × Int32 × Int32 × Int32 × Int32}  (h : f_X5_figures bOs bOn yop bSo bNu ytr yiw bTp yln ypl yfa v1 = some z) : Ct l G yX5_figures cX5_figures 4 (some .int) 3 123 [.ref (q 0), .int v1] (mW G q yp ye yg bPo bTb wSh wTe wNx bOs bOn yop bSo bNu ytr yiw wMa wPr bTp yln ypl yfa wLi bSi yhp yhe yhg wHs yhi ++ fr) (some (.int z.1)) (mW G q yp ye yg bPo bTb wSh wTe wNx bOs bOn yop z.2.1 z.2.2.1 z.2.2.2.1 z.2.2.2.2.1 wMa wPr bTp yln z.2.2.2.2.2.1 z.2.2.2.2.2.2 wLi bSi yhp yhe yhg wHs yhi ++ fr) := by
  refine Ct.of (by decide +kernel) (Nat.le_of_ble_eq_true rfl) trivial ?_
  intro p e s m args below meth c Q A ls F hw hA hE hl
  have hx := F.x
  have hb := F.b
  unfold f_X5_figures at h
  obtain ⟨H, hH⟩ : ∃ H, H = s.heap := ⟨_, rfl⟩
  obtain ⟨locs, hlo⟩ : ∃ locs : List Loc, locs = [] := ⟨_, rfl⟩
  rw [← hH, ← hlo] at hw ⊢
  have hl : lv_has ls 4 [(0, .ref (q 0)), (1, .int v1)] := hl
  refine lv_aload_n hx hb dX5_figures_0 rfl (lv_at hl 0 rfl) ?_
  obtain ⟨z1, hz1, h⟩ := stB h
  refine ctV (av := []) (st0 := ([] : List Value)) (st1 := ([.int z1] : List Value)) F hw hA (k_X5_isFigure hz1) kl_5_229 kd_X5_isFigure rfl ⟨by decide, by decide⟩ 0 rfl rfl hl.1 rfl (Nat.le_of_ble_eq_true rfl) dX5_figures_1 rfl (fun H locs hw => ?_)
  refine lv_if_ne (tgt := 17) hx hb dX5_figures_4 (by decide) (fun c2 => ?_) (fun c2 => ?_)
  · replace h := stF c2 h
    refine lv_iconst (v := 0) hx hb dX5_figures_17 (by decide) ?_
    refine lv_istore_n (lv' := [(2, .int 0), (0, .ref (q 0)), (1, .int v1)]) hx hb dX5_figures_18 rfl hl (by decide) rfl (fun ls hl => ?_)
    refine lv_iconst (v := 0) hx hb dX5_figures_19 (by decide) ?_
    refine lv_istore_n (lv' := [(3, .int 0), (2, .int 0), (0, .ref (q 0)), (1, .int v1)]) hx hb dX5_figures_20 rfl hl (by decide) rfl (fun ls hl => ?_)
    exact w_X5_figures_L21 F hA  FU _ _ _ _ _ _ _ _ z h hE H locs ls hw (lv_sub hl [2, 3, 1, 0] rfl)
  · replace h := stT c2 h
    refine lv_aload_n hx hb dX5_figures_7 rfl (lv_at hl 0 rfl) ?_
    refine lv_aload_n hx hb dX5_figures_8 rfl (lv_at hl 0 rfl) ?_
    refine gf_5_219 F hw dX5_figures_9 ?_
    obtain ⟨z3, hz3, h⟩ := stB h
    refine ctV (av := [.int ypl]) (st0 := ([] : List Value)) (st1 := ([] : List Value)) F hw hA (k_X5_faulty hz3) kl_5_233 kd_X5_faulty rfl ⟨by decide, by decide⟩ 0 rfl rfl hl.1 rfl (Nat.le_of_ble_eq_true rfl) dX5_figures_12 rfl (fun H locs hw => ?_)
    refine lv_iconst (v := 0) hx hb dX5_figures_15 (by decide) ?_
    obtain rfl := Option.some.inj h
    exact hE H locs _ ls hw dX5_figures_16
end
theorem dX5_part_0 : decode cX5_part 0 = .ok (.aload_n 0, 1) := by decide +kernel
theorem dX5_part_1 : decode cX5_part 1 = .ok (.invokevirtual 229, 3) := by decide +kernel
theorem dX5_part_4 : decode cX5_part 4 = .ok (.ifCond .eq 17, 3) := by decide +kernel
theorem dX5_part_7 : decode cX5_part 7 = .ok (.aload_n 0, 1) := by decide +kernel
theorem dX5_part_8 : decode cX5_part 8 = .ok (.iload_n 1, 1) := by decide +kernel
theorem dX5_part_9 : decode cX5_part 9 = .ok (.aload_n 0, 1) := by decide +kernel
theorem dX5_part_10 : decode cX5_part 10 = .ok (.iconst 3, 1) := by decide +kernel
theorem dX5_part_11 : decode cX5_part 11 = .ok (.invokevirtual 237, 3) := by decide +kernel
theorem dX5_part_14 : decode cX5_part 14 = .ok (.i2l, 1) := by decide +kernel
theorem dX5_part_15 : decode cX5_part 15 = .ok (.invokevirtual 179, 3) := by decide +kernel
theorem dX5_part_18 : decode cX5_part 18 = .ok (.goto 194, 3) := by decide +kernel
theorem dX5_part_21 : decode cX5_part 21 = .ok (.aload_n 0, 1) := by decide +kernel
theorem dX5_part_22 : decode cX5_part 22 = .ok (.bipush 110, 2) := by decide +kernel
theorem dX5_part_24 : decode cX5_part 24 = .ok (.invokevirtual 240, 3) := by decide +kernel
theorem dX5_part_27 : decode cX5_part 27 = .ok (.ifCond .eq 88, 3) := by decide +kernel
theorem dX5_part_30 : decode cX5_part 30 = .ok (.aload_n 0, 1) := by decide +kernel
theorem dX5_part_31 : decode cX5_part 31 = .ok (.dup, 1) := by decide +kernel
theorem dX5_part_32 : decode cX5_part 32 = .ok (.getfield 219, 3) := by decide +kernel
theorem dX5_part_35 : decode cX5_part 35 = .ok (.iconst 1, 1) := by decide +kernel
theorem dX5_part_36 : decode cX5_part 36 = .ok (.iadd, 1) := by decide +kernel
theorem dX5_part_37 : decode cX5_part 37 = .ok (.putfield 219, 3) := by decide +kernel
theorem dX5_part_40 : decode cX5_part 40 = .ok (.aload_n 0, 1) := by decide +kernel
theorem dX5_part_41 : decode cX5_part 41 = .ok (.iconst 2, 1) := by decide +kernel
theorem dX5_part_42 : decode cX5_part 42 = .ok (.invokevirtual 237, 3) := by decide +kernel
theorem dX5_part_45 : decode cX5_part 45 = .ok (.istore_n 2, 1) := by decide +kernel
theorem dX5_part_46 : decode cX5_part 46 = .ok (.aload_n 0, 1) := by decide +kernel
theorem dX5_part_47 : decode cX5_part 47 = .ok (.getfield 150, 3) := by decide +kernel
theorem dX5_part_50 : decode cX5_part 50 = .ok (.ifCond .ne 21, 3) := by decide +kernel
theorem dX5_part_53 : decode cX5_part 53 = .ok (.aload_n 0, 1) := by decide +kernel
theorem dX5_part_54 : decode cX5_part 54 = .ok (.iload_n 2, 1) := by decide +kernel
theorem dX5_part_55 : decode cX5_part 55 = .ok (.invokevirtual 114, 3) := by decide +kernel
theorem dX5_part_58 : decode cX5_part 58 = .ok (.ifCond .ne 13, 3) := by decide +kernel
theorem dX5_part_61 : decode cX5_part 61 = .ok (.aload_n 0, 1) := by decide +kernel
theorem dX5_part_62 : decode cX5_part 62 = .ok (.aload_n 0, 1) := by decide +kernel
theorem dX5_part_63 : decode cX5_part 63 = .ok (.getfield 219, 3) := by decide +kernel
theorem dX5_part_66 : decode cX5_part 66 = .ok (.iconst 1, 1) := by decide +kernel
theorem dX5_part_67 : decode cX5_part 67 = .ok (.isub, 1) := by decide +kernel
theorem dX5_part_68 : decode cX5_part 68 = .ok (.invokevirtual 233, 3) := by decide +kernel
theorem dX5_part_71 : decode cX5_part 71 = .ok (.iconst 0, 1) := by decide +kernel
theorem dX5_part_72 : decode cX5_part 72 = .ok (.istore_n 3, 1) := by decide +kernel
theorem dX5_part_73 : decode cX5_part 73 = .ok (.iload_n 3, 1) := by decide +kernel
theorem dX5_part_74 : decode cX5_part 74 = .ok (.aload_n 0, 1) := by decide +kernel
theorem dX5_part_75 : decode cX5_part 75 = .ok (.getfield 66, 3) := by decide +kernel
theorem dX5_part_78 : decode cX5_part 78 = .ok (.if_icmp .ge 34, 3) := by decide +kernel
theorem dX5_part_81 : decode cX5_part 81 = .ok (.aload_n 0, 1) := by decide +kernel
theorem dX5_part_82 : decode cX5_part 82 = .ok (.getfield 40, 3) := by decide +kernel
theorem dX5_part_85 : decode cX5_part 85 = .ok (.bipush 12, 2) := by decide +kernel
theorem dX5_part_87 : decode cX5_part 87 = .ok (.iload_n 1, 1) := by decide +kernel
theorem dX5_part_88 : decode cX5_part 88 = .ok (.imul, 1) := by decide +kernel
theorem dX5_part_89 : decode cX5_part 89 = .ok (.iload_n 3, 1) := by decide +kernel
theorem dX5_part_90 : decode cX5_part 90 = .ok (.iadd, 1) := by decide +kernel
theorem dX5_part_91 : decode cX5_part 91 = .ok (.iload_n 3, 1) := by decide +kernel
theorem dX5_part_92 : decode cX5_part 92 = .ok (.iload_n 2, 1) := by decide +kernel
theorem dX5_part_93 : decode cX5_part 93 = .ok (.if_icmp .ne 7, 3) := by decide +kernel
theorem dX5_part_96 : decode cX5_part 96 = .ok (.iconst 1, 1) := by decide +kernel
theorem dX5_part_97 : decode cX5_part 97 = .ok (.goto 4, 3) := by decide +kernel
theorem dX5_part_100 : decode cX5_part 100 = .ok (.iconst 0, 1) := by decide +kernel
theorem dX5_part_101 : decode cX5_part 101 = .ok (.invokestatic 103, 3) := by decide +kernel
theorem dX5_part_104 : decode cX5_part 104 = .ok (.i2l, 1) := by decide +kernel
theorem dX5_part_105 : decode cX5_part 105 = .ok (.lastore, 1) := by decide +kernel
theorem dX5_part_106 : decode cX5_part 106 = .ok (.iinc 3 1, 3) := by decide +kernel
theorem dX5_part_109 : decode cX5_part 109 = .ok (.goto (-36), 3) := by decide +kernel
theorem dX5_part_112 : decode cX5_part 112 = .ok (.goto 100, 3) := by decide +kernel
theorem dX5_part_115 : decode cX5_part 115 = .ok (.aload_n 0, 1) := by decide +kernel
theorem dX5_part_116 : decode cX5_part 116 = .ok (.bipush 40, 2) := by decide +kernel
theorem dX5_part_118 : decode cX5_part 118 = .ok (.invokevirtual 240, 3) := by decide +kernel
theorem dX5_part_121 : decode cX5_part 121 = .ok (.ifCond .eq 83, 3) := by decide +kernel
theorem dX5_part_124 : decode cX5_part 124 = .ok (.aload_n 0, 1) := by decide +kernel
theorem dX5_part_125 : decode cX5_part 125 = .ok (.getfield 147, 3) := by decide +kernel
theorem dX5_part_128 : decode cX5_part 128 = .ok (.iconst 5, 1) := by decide +kernel
theorem dX5_part_129 : decode cX5_part 129 = .ok (.if_icmp .ge 75, 3) := by decide +kernel
theorem dX5_part_132 : decode cX5_part 132 = .ok (.aload_n 0, 1) := by decide +kernel
theorem dX5_part_133 : decode cX5_part 133 = .ok (.bipush 6, 2) := by decide +kernel
theorem dX5_part_135 : decode cX5_part 135 = .ok (.aload_n 0, 1) := by decide +kernel
theorem dX5_part_136 : decode cX5_part 136 = .ok (.getfield 219, 3) := by decide +kernel
theorem dX5_part_139 : decode cX5_part 139 = .ok (.invokevirtual 205, 3) := by decide +kernel
theorem dX5_part_142 : decode cX5_part 142 = .ok (.aload_n 0, 1) := by decide +kernel
theorem dX5_part_143 : decode cX5_part 143 = .ok (.dup, 1) := by decide +kernel
theorem dX5_part_144 : decode cX5_part 144 = .ok (.getfield 219, 3) := by decide +kernel
theorem dX5_part_147 : decode cX5_part 147 = .ok (.iconst 1, 1) := by decide +kernel
theorem dX5_part_148 : decode cX5_part 148 = .ok (.iadd, 1) := by decide +kernel
theorem dX5_part_149 : decode cX5_part 149 = .ok (.putfield 219, 3) := by decide +kernel
theorem dX5_part_152 : decode cX5_part 152 = .ok (.aload_n 0, 1) := by decide +kernel
theorem dX5_part_153 : decode cX5_part 153 = .ok (.iload_n 1, 1) := by decide +kernel
theorem dX5_part_154 : decode cX5_part 154 = .ok (.invokevirtual 243, 3) := by decide +kernel
theorem dX5_part_157 : decode cX5_part 157 = .ok (.aload_n 0, 1) := by decide +kernel
theorem dX5_part_158 : decode cX5_part 158 = .ok (.getfield 150, 3) := by decide +kernel
theorem dX5_part_161 : decode cX5_part 161 = .ok (.ifCond .ne 20, 3) := by decide +kernel
theorem dX5_part_164 : decode cX5_part 164 = .ok (.aload_n 0, 1) := by decide +kernel
theorem dX5_part_165 : decode cX5_part 165 = .ok (.bipush 41, 2) := by decide +kernel
theorem dX5_part_167 : decode cX5_part 167 = .ok (.invokevirtual 240, 3) := by decide +kernel
theorem dX5_part_170 : decode cX5_part 170 = .ok (.ifCond .ne 11, 3) := by decide +kernel
theorem dX5_part_173 : decode cX5_part 173 = .ok (.aload_n 0, 1) := by decide +kernel
theorem dX5_part_174 : decode cX5_part 174 = .ok (.aload_n 0, 1) := by decide +kernel
theorem dX5_part_175 : decode cX5_part 175 = .ok (.getfield 219, 3) := by decide +kernel
theorem dX5_part_178 : decode cX5_part 178 = .ok (.invokevirtual 233, 3) := by decide +kernel
theorem dX5_part_181 : decode cX5_part 181 = .ok (.aload_n 0, 1) := by decide +kernel
theorem dX5_part_182 : decode cX5_part 182 = .ok (.dup, 1) := by decide +kernel
theorem dX5_part_183 : decode cX5_part 183 = .ok (.getfield 219, 3) := by decide +kernel
theorem dX5_part_186 : decode cX5_part 186 = .ok (.iconst 1, 1) := by decide +kernel
theorem dX5_part_187 : decode cX5_part 187 = .ok (.iadd, 1) := by decide +kernel
theorem dX5_part_188 : decode cX5_part 188 = .ok (.putfield 219, 3) := by decide +kernel
theorem dX5_part_191 : decode cX5_part 191 = .ok (.aload_n 0, 1) := by decide +kernel
theorem dX5_part_192 : decode cX5_part 192 = .ok (.dup, 1) := by decide +kernel
theorem dX5_part_193 : decode cX5_part 193 = .ok (.getfield 147, 3) := by decide +kernel
theorem dX5_part_196 : decode cX5_part 196 = .ok (.iconst 1, 1) := by decide +kernel
theorem dX5_part_197 : decode cX5_part 197 = .ok (.isub, 1) := by decide +kernel
theorem dX5_part_198 : decode cX5_part 198 = .ok (.putfield 147, 3) := by decide +kernel
theorem dX5_part_201 : decode cX5_part 201 = .ok (.goto 11, 3) := by decide +kernel
theorem dX5_part_204 : decode cX5_part 204 = .ok (.aload_n 0, 1) := by decide +kernel
theorem dX5_part_205 : decode cX5_part 205 = .ok (.aload_n 0, 1) := by decide +kernel
theorem dX5_part_206 : decode cX5_part 206 = .ok (.getfield 219, 3) := by decide +kernel
theorem dX5_part_209 : decode cX5_part 209 = .ok (.invokevirtual 233, 3) := by decide +kernel
theorem dX5_part_212 : decode cX5_part 212 = .ok (.return_, 1) := by decide +kernel
section
variable {p : Program} {l : Launch} {e : Env} {s : State} {m : MethodId} {args : Array Value} {below : List Frame} {meth : Method} {c : Code} {Q : State → Prop} {G : GG} {A : Nat → Prop} {q : Nat → Nat} {fr : va_W}
def f_X5_part_L73 (RS : Int32 → Int32 → (Nat → Int32) → (Nat → Int32) → (Nat → Int32) → (Nat → Int32) → Int32 → (Nat → Int32) → (Nat → Int32) → Int32 → Int32 → (Nat → Int64) → (Nat → Int64) → (Nat → Int32) → Int32 → Int32 → Int32 → Int32 → Option ((Nat → Int32) × (Nat → Int32) × Int32 × (Nat → Int32) × (Nat → Int32) × Int32 × Int32 × (Nat → Int64) × (Nat → Int64) × Int32 × Int32)) (yp : Int32) (ye : Int32) (bPo : Nat → Int32) (bTb : Nat → Int32) (bTp : Nat → Int32) (yln : Int32) (v1 : Int32) : Nat → (Nat → Int32) → (Nat → Int32) → Int32 → (Nat → Int32) → (Nat → Int32) → Int32 → Int32 → (Nat → Int64) → (Nat → Int64) → Int32 → Int32 → Int32 → Int32 → Option ((Nat → Int32) × (Nat → Int32) × Int32 × (Nat → Int32) × (Nat → Int32) × Int32 × Int32 × (Nat → Int64) × (Nat → Int64) × Int32 × Int32)
  | 0, _, _, _, _, _, _, _, _, _, _, _, _, _ => none
  | fu + 1, bOs, bOn, yop, bSo, bNu, ytr, yiw, wMa, wPr, ypl, yfa, v2, v3 =>
    if ye ≤ v3 then
    some (bOs, bOn, yop, bSo, bNu, ytr, yiw, wMa, wPr, ypl, yfa)
    else
    if v3 = v2 then
    (f_X5_bit 1).bind fun z5 =>
    if inb ((12 * v1) + v3) 480 then
    f_X5_part_L73 RS yp ye bPo bTb bTp yln v1 fu bOs bOn yop bSo bNu ytr yiw (vp_updL wMa ((12 * v1) + v3).toNatClampNeg z5.toInt64) wPr ypl yfa v2 (v3 + 1)
    else none
    else
    (f_X5_bit 0).bind fun z3 =>
    if inb ((12 * v1) + v3) 480 then
    f_X5_part_L73 RS yp ye bPo bTb bTp yln v1 fu bOs bOn yop bSo bNu ytr yiw (vp_updL wMa ((12 * v1) + v3).toNatClampNeg z3.toInt64) wPr ypl yfa v2 (v3 + 1)
    else none
set_option maxHeartbeats 4000000 in
set_option maxRecDepth 100000 in
theorem w_X5_part_L73 {d : Nat} {RS : Int32 → Int32 → (Nat → Int32) → (Nat → Int32) → (Nat → Int32) → (Nat → Int32) → Int32 → (Nat → Int32) → (Nat → Int32) → Int32 → Int32 → (Nat → Int64) → (Nat → Int64) → (Nat → Int32) → Int32 → Int32 → Int32 → Int32 → Option ((Nat → Int32) × (Nat → Int32) × Int32 × (Nat → Int32) × (Nat → Int32) × Int32 × Int32 × (Nat → Int64) × (Nat → Int64) × Int32 × Int32)} {yp : Int32} {ye : Int32} {yg : Int32} {bPo : Nat → Int32} {bTb : Nat → Int32} {wSh : Nat → Int64} {wTe : Nat → Int64} {wNx : Nat → Int64} {bTp : Nat → Int32} {yln : Int32} {wLi : Nat → Int64} {bSi : Nat → Int32} {yhp : Int32} {yhe : Int32} {yhg : Int32} {wHs : Nat → Int64} {yhi : Int32} {v1 : Int32}  (F : Fx p s m args meth c cX5_part 4 RX5 none) (hA : ∀ q, s.heap.size ≤ q → A q) (hRS : ∀ (fr : va_W) (yp : Int32) (ye : Int32) (yg : Int32) (bPo : Nat → Int32) (bTb : Nat → Int32) (wSh : Nat → Int64) (wTe : Nat → Int64) (wNx : Nat → Int64) (bOs : Nat → Int32) (bOn : Nat → Int32) (yop : Int32) (bSo : Nat → Int32) (bNu : Nat → Int32) (ytr : Int32) (yiw : Int32) (wMa : Nat → Int64) (wPr : Nat → Int64) (bTp : Nat → Int32) (yln : Int32) (ypl : Int32) (yfa : Int32) (wLi : Nat → Int64) (bSi : Nat → Int32) (yhp : Int32) (yhe : Int32) (yhg : Int32) (wHs : Nat → Int64) (yhi : Int32) (v1 : Int32) (z : (Nat → Int32) × (Nat → Int32) × Int32 × (Nat → Int32) × (Nat → Int32) × Int32 × Int32 × (Nat → Int64) × (Nat → Int64) × Int32 × Int32), RS yp ye bPo bTb bOs bOn yop bSo bNu ytr yiw wMa wPr bTp yln ypl yfa v1 = some z → Ct l G yX5_sum cX5_sum 3 none (20 + 3 * d) (600 + 66 * d) [.ref (q 0), .int v1] (mW G q yp ye yg bPo bTb wSh wTe wNx bOs bOn yop bSo bNu ytr yiw wMa wPr bTp yln ypl yfa wLi bSi yhp yhe yhg wHs yhi ++ fr) (none) (mW G q yp ye yg bPo bTb wSh wTe wNx z.1 z.2.1 z.2.2.1 z.2.2.2.1 z.2.2.2.2.1 z.2.2.2.2.2.1 z.2.2.2.2.2.2.1 z.2.2.2.2.2.2.2.1 z.2.2.2.2.2.2.2.2.1 bTp yln z.2.2.2.2.2.2.2.2.2.1 z.2.2.2.2.2.2.2.2.2.2 wLi bSi yhp yhe yhg wHs yhi ++ fr))  : ∀ (fu : Nat) (bOs : Nat → Int32) (bOn : Nat → Int32) (yop : Int32) (bSo : Nat → Int32) (bNu : Nat → Int32) (ytr : Int32) (yiw : Int32) (wMa : Nat → Int64) (wPr : Nat → Int64) (ypl : Int32) (yfa : Int32) (v2 : Int32) (v3 : Int32) (z : (Nat → Int32) × (Nat → Int32) × Int32 × (Nat → Int32) × (Nat → Int32) × Int32 × Int32 × (Nat → Int64) × (Nat → Int64) × Int32 × Int32), f_X5_part_L73 RS yp ye bPo bTb bTp yln v1 fu bOs bOn yop bSo bNu ytr yiw wMa wPr ypl yfa v2 v3 = some z → Ends p l e (rmOf (20 + 3 * d + 1) (600 + 66 * d + 22)) s m args below meth c Q cX5_part G A none (none) (mW G q yp ye yg bPo bTb wSh wTe wNx z.1 z.2.1 z.2.2.1 z.2.2.2.1 z.2.2.2.2.1 z.2.2.2.2.2.1 z.2.2.2.2.2.2.1 z.2.2.2.2.2.2.2.1 z.2.2.2.2.2.2.2.2.1 bTp yln z.2.2.2.2.2.2.2.2.2.1 z.2.2.2.2.2.2.2.2.2.2 wLi bSi yhp yhe yhg wHs yhi ++ fr) → ∀ (H : Heap) (locs : List Loc) (ls : Array Slot), Wd G s A (mW G q yp ye yg bPo bTb wSh wTe wNx bOs bOn yop bSo bNu ytr yiw wMa wPr bTp yln ypl yfa wLi bSi yhp yhe yhg wHs yhi ++ fr) H locs → lv_has ls 4 [(0, .ref (q 0)), (1, .int v1), (2, .int v2), (3, .int v3)] → W p l e (rmOf (20 + 3 * d + 1) (600 + 66 * d + 22)) s m args below meth c H locs 0 0 Q (F0 m 73 ls []) := by
  have hx := F.x
  have hb := F.b
  intro fu
  induction fu with
  | zero =>
    intro bOs bOn yop bSo bNu ytr yiw wMa wPr ypl yfa v2 v3 z h
    cases (h : none = some z)
  | succ fu ih =>
    intro bOs bOn yop bSo bNu ytr yiw wMa wPr ypl yfa v2 v3 z h hE H locs ls hw hl
    rw [f_X5_part_L73] at h
    refine lv_iload_n hx hb dX5_part_73 rfl (lv_at hl 3 rfl) ?_
    refine lv_aload_n hx hb dX5_part_74 rfl (lv_at hl 0 rfl) ?_
    refine gf_5_66 F hw dX5_part_75 ?_
    refine lv_icmp_ge (tgt := 112) hx hb dX5_part_78 (by decide) (fun c1 => ?_) (fun c1 => ?_)
    · replace h := stT c1 h
      refine lv_goto (tgt := 212) hx hb dX5_part_112 (by decide) ?_
      obtain rfl := Option.some.inj h
      exact hE H locs _ ls hw dX5_part_212
    · replace h := stF c1 h
      refine lv_aload_n hx hb dX5_part_81 rfl (lv_at hl 0 rfl) ?_
      refine gf_5_40 F hw dX5_part_82 ?_
      refine lv_bipush (v := 12) hx hb dX5_part_85 (by decide) ?_
      refine lv_iload_n hx hb dX5_part_87 rfl (lv_at hl 1 rfl) ?_
      refine lv_imul hx hb dX5_part_88 ?_
      refine lv_iload_n hx hb dX5_part_89 rfl (lv_at hl 3 rfl) ?_
      refine lv_iadd hx hb dX5_part_90 ?_
      refine lv_iload_n hx hb dX5_part_91 rfl (lv_at hl 3 rfl) ?_
      refine lv_iload_n hx hb dX5_part_92 rfl (lv_at hl 2 rfl) ?_
      refine lv_icmp_ne (tgt := 100) hx hb dX5_part_93 (by decide) (fun c2 => ?_) (fun c2 => ?_)
      · replace h := stF c2 h
        refine lv_iconst (v := 0) hx hb dX5_part_100 (by decide) ?_
        obtain ⟨z3, hz3, h⟩ := stB h
        refine ctS (av := [.int 0]) (st0 := ([.int ((12 * v1) + v3), .ref (q 10)] : List Value)) (st1 := ([.int z3, .int ((12 * v1) + v3), .ref (q 10)] : List Value)) F hw hA (k_X5_bit hz3) kl_5_103 kd_X5_bit rfl ⟨by omega, by omega⟩ hl.1 rfl (Nat.le_of_ble_eq_true rfl) dX5_part_101 rfl (fun H locs hw => ?_)
        refine lv_i2l (v := z3.toInt64) hx hb dX5_part_104 rfl ?_
        obtain ⟨g4, h⟩ := stG h
        refine as_m10 F hw g4 dX5_part_105 (fun H locs hw => ?_)
        refine lv_iinc (v := (v3 + 1)) (lv' := [(3, .int (v3 + 1)), (0, .ref (q 0)), (1, .int v1), (2, .int v2)]) hx hb dX5_part_106 hl (k := 3) rfl rfl (by decide) rfl (fun ls hl => ?_)
        refine lv_goto (tgt := 73) hx hb dX5_part_109 (by decide) ?_
        exact ih _ _ _ _ _ _ _ _ _ _ _ _ _ z h hE H locs ls hw (lv_sub hl [1, 2, 3, 0] rfl)
      · replace h := stT c2 h
        refine lv_iconst (v := 1) hx hb dX5_part_96 (by decide) ?_
        refine lv_goto (tgt := 101) hx hb dX5_part_97 (by decide) ?_
        obtain ⟨z5, hz5, h⟩ := stB h
        refine ctS (av := [.int 1]) (st0 := ([.int ((12 * v1) + v3), .ref (q 10)] : List Value)) (st1 := ([.int z5, .int ((12 * v1) + v3), .ref (q 10)] : List Value)) F hw hA (k_X5_bit hz5) kl_5_103 kd_X5_bit rfl ⟨by omega, by omega⟩ hl.1 rfl (Nat.le_of_ble_eq_true rfl) dX5_part_101 rfl (fun H locs hw => ?_)
        refine lv_i2l (v := z5.toInt64) hx hb dX5_part_104 rfl ?_
        obtain ⟨g6, h⟩ := stG h
        refine as_m10 F hw g6 dX5_part_105 (fun H locs hw => ?_)
        refine lv_iinc (v := (v3 + 1)) (lv' := [(3, .int (v3 + 1)), (0, .ref (q 0)), (1, .int v1), (2, .int v2)]) hx hb dX5_part_106 hl (k := 3) rfl rfl (by decide) rfl (fun ls hl => ?_)
        refine lv_goto (tgt := 73) hx hb dX5_part_109 (by decide) ?_
        exact ih _ _ _ _ _ _ _ _ _ _ _ _ _ z h hE H locs ls hw (lv_sub hl [1, 2, 3, 0] rfl)
def f_X5_part (RS : Int32 → Int32 → (Nat → Int32) → (Nat → Int32) → (Nat → Int32) → (Nat → Int32) → Int32 → (Nat → Int32) → (Nat → Int32) → Int32 → Int32 → (Nat → Int64) → (Nat → Int64) → (Nat → Int32) → Int32 → Int32 → Int32 → Int32 → Option ((Nat → Int32) × (Nat → Int32) × Int32 × (Nat → Int32) × (Nat → Int32) × Int32 × Int32 × (Nat → Int64) × (Nat → Int64) × Int32 × Int32)) (yp : Int32) (ye : Int32) (bPo : Nat → Int32) (bTb : Nat → Int32) (bOs : Nat → Int32) (bOn : Nat → Int32) (yop : Int32) (bSo : Nat → Int32) (bNu : Nat → Int32) (ytr : Int32) (yiw : Int32) (wMa : Nat → Int64) (wPr : Nat → Int64) (bTp : Nat → Int32) (yln : Int32) (ypl : Int32) (yfa : Int32) (v1 : Int32) : Option ((Nat → Int32) × (Nat → Int32) × Int32 × (Nat → Int32) × (Nat → Int32) × Int32 × Int32 × (Nat → Int64) × (Nat → Int64) × Int32 × Int32) :=
  (f_X5_isFigure bTp yln ypl).bind fun z1 =>
  if z1 = 0 then
  (f_X5_isNext bTp yln ypl 110).bind fun z3 =>
  if z3 = 0 then
  (f_X5_isNext bTp yln ypl 40).bind fun z5 =>
  if z5 = 0 then
  (f_X5_faulty bOs bOn yop bSo bNu ytr yiw yfa ypl).bind fun z7 =>
  some (bOs, bOn, yop, z7.1, z7.2.1, z7.2.2.1, z7.2.2.2.1, wMa, wPr, ypl, z7.2.2.2.2)
  else
  if 5 ≤ yop then
  (f_X5_faulty bOs bOn yop bSo bNu ytr yiw yfa ypl).bind fun z9 =>
  some (bOs, bOn, yop, z9.1, z9.2.1, z9.2.2.1, z9.2.2.2.1, wMa, wPr, ypl, z9.2.2.2.2)
  else
  (f_X5_opens bOs bOn yop 6 ypl).bind fun z10 =>
  (RS yp ye bPo bTb z10.1 z10.2.1 z10.2.2 bSo bNu ytr yiw wMa wPr bTp yln (ypl + 1) yfa v1).bind fun z11 =>
  if z11.2.2.2.2.2.2.1 = 0 then
  (f_X5_isNext bTp yln z11.2.2.2.2.2.2.2.2.2.1 41).bind fun z13 =>
  if z13 = 0 then
  (f_X5_faulty z11.1 z11.2.1 z11.2.2.1 z11.2.2.2.1 z11.2.2.2.2.1 z11.2.2.2.2.2.1 z11.2.2.2.2.2.2.1 z11.2.2.2.2.2.2.2.2.2.2 z11.2.2.2.2.2.2.2.2.2.1).bind fun z15 =>
  some (z11.1, z11.2.1, (z11.2.2.1 - 1), z15.1, z15.2.1, z15.2.2.1, z15.2.2.2.1, z11.2.2.2.2.2.2.2.1, z11.2.2.2.2.2.2.2.2.1, (z11.2.2.2.2.2.2.2.2.2.1 + 1), z15.2.2.2.2)
  else
  some (z11.1, z11.2.1, (z11.2.2.1 - 1), z11.2.2.2.1, z11.2.2.2.2.1, z11.2.2.2.2.2.1, z11.2.2.2.2.2.2.1, z11.2.2.2.2.2.2.2.1, z11.2.2.2.2.2.2.2.2.1, (z11.2.2.2.2.2.2.2.2.2.1 + 1), z11.2.2.2.2.2.2.2.2.2.2)
  else
  some (z11.1, z11.2.1, (z11.2.2.1 - 1), z11.2.2.2.1, z11.2.2.2.2.1, z11.2.2.2.2.2.1, z11.2.2.2.2.2.2.1, z11.2.2.2.2.2.2.2.1, z11.2.2.2.2.2.2.2.2.1, (z11.2.2.2.2.2.2.2.2.2.1 + 1), z11.2.2.2.2.2.2.2.2.2.2)
  else
  (f_X5_figures bOs bOn yop bSo bNu ytr yiw bTp yln (ypl + 1) yfa 2).bind fun z16 =>
  if z16.2.2.2.2.1 = 0 then
  (f_X5_isClass ye z16.1).bind fun z18 =>
  if z18 = 0 then
  (f_X5_faulty bOs bOn yop z16.2.1 z16.2.2.1 z16.2.2.2.1 z16.2.2.2.2.1 z16.2.2.2.2.2.2 (z16.2.2.2.2.2.1 - 1)).bind fun z20 =>
  f_X5_part_L73 RS yp ye bPo bTb bTp yln v1 FU bOs bOn yop z20.1 z20.2.1 z20.2.2.1 z20.2.2.2.1 wMa wPr z16.2.2.2.2.2.1 z20.2.2.2.2 z16.1 0
  else
  f_X5_part_L73 RS yp ye bPo bTb bTp yln v1 FU bOs bOn yop z16.2.1 z16.2.2.1 z16.2.2.2.1 z16.2.2.2.2.1 wMa wPr z16.2.2.2.2.2.1 z16.2.2.2.2.2.2 z16.1 0
  else
  f_X5_part_L73 RS yp ye bPo bTb bTp yln v1 FU bOs bOn yop z16.2.1 z16.2.2.1 z16.2.2.2.1 z16.2.2.2.2.1 wMa wPr z16.2.2.2.2.2.1 z16.2.2.2.2.2.2 z16.1 0
  else
  (f_X5_figures bOs bOn yop bSo bNu ytr yiw bTp yln ypl yfa 3).bind fun z21 =>
  (f_X5_becomesWhole ye wMa v1 z21.1.toInt64).bind fun z22 =>
  some (bOs, bOn, yop, z21.2.1, z21.2.2.1, z21.2.2.2.1, z21.2.2.2.2.1, z22, wPr, z21.2.2.2.2.2.1, z21.2.2.2.2.2.2)
set_option maxHeartbeats 4000000 in
set_option maxRecDepth 100000 in
theorem k_X5_part {l : Launch} {G : GG} {q : Nat → Nat} {fr : va_W} {d : Nat} {RS : Int32 → Int32 → (Nat → Int32) → (Nat → Int32) → (Nat → Int32) → (Nat → Int32) → Int32 → (Nat → Int32) → (Nat → Int32) → Int32 → Int32 → (Nat → Int64) → (Nat → Int64) → (Nat → Int32) → Int32 → Int32 → Int32 → Int32 → Option ((Nat → Int32) × (Nat → Int32) × Int32 × (Nat → Int32) × (Nat → Int32) × Int32 × Int32 × (Nat → Int64) × (Nat → Int64) × Int32 × Int32)} {yp : Int32} {ye : Int32} {yg : Int32} {bPo : Nat → Int32} {bTb : Nat → Int32} {wSh : Nat → Int64} {wTe : Nat → Int64} {wNx : Nat → Int64} {bOs : Nat → Int32} {bOn : Nat → Int32} {yop : Int32} {bSo : Nat → Int32} {bNu : Nat → Int32} {ytr : Int32} {yiw : Int32} {wMa : Nat → Int64} {wPr : Nat → Int64} {bTp : Nat → Int32} {yln : Int32} {ypl : Int32} {yfa : Int32} {wLi : Nat → Int64} {bSi : Nat → Int32} {yhp : Int32} {yhe : Int32} {yhg : Int32} {wHs : Nat → Int64} {yhi : Int32} {v1 : Int32} {z : (Nat → Int32) × (Nat → Int32) × Int32 × (Nat → Int32) × (Nat → Int32) × Int32 × Int32 × (Nat → Int64) × (Nat → Int64) × Int32 × Int32} (hRS : ∀ (fr : va_W) (yp : Int32) (ye : Int32) (yg : Int32) (bPo : Nat → Int32) (bTb : Nat → Int32) (wSh : Nat → Int64) (wTe : Nat → Int64) (wNx : Nat → Int64) (bOs : Nat → Int32) (bOn : Nat → Int32) (yop : Int32) (bSo : Nat → Int32) (bNu : Nat → Int32) (ytr : Int32) (yiw : Int32) (wMa : Nat → Int64) (wPr : Nat → Int64) (bTp : Nat → Int32) (yln : Int32) (ypl : Int32) (yfa : Int32) (wLi : Nat → Int64) (bSi : Nat → Int32) (yhp : Int32) (yhe : Int32) (yhg : Int32) (wHs : Nat → Int64) (yhi : Int32) (v1 : Int32) (z : (Nat → Int32) × (Nat → Int32) × Int32 × (Nat → Int32) × (Nat → Int32) × Int32 × Int32 × (Nat → Int64) × (Nat → Int64) × Int32 × Int32), RS yp ye bPo bTb bOs bOn yop bSo bNu ytr yiw wMa wPr bTp yln ypl yfa v1 = some z → Ct l G yX5_sum cX5_sum 3 none (20 + 3 * d) (600 + 66 * d) [.ref (q 0), .int v1] (mW G q yp ye yg bPo bTb wSh wTe wNx bOs bOn yop bSo bNu ytr yiw wMa wPr bTp yln ypl yfa wLi bSi yhp yhe yhg wHs yhi ++ fr) (none) (mW G q yp ye yg bPo bTb wSh wTe wNx z.1 z.2.1 z.2.2.1 z.2.2.2.1 z.2.2.2.2.1 z.2.2.2.2.2.1 z.2.2.2.2.2.2.1 z.2.2.2.2.2.2.2.1 z.2.2.2.2.2.2.2.2.1 bTp yln z.2.2.2.2.2.2.2.2.2.1 z.2.2.2.2.2.2.2.2.2.2 wLi bSi yhp yhe yhg wHs yhi ++ fr)) (h : f_X5_part RS yp ye bPo bTb bOs bOn yop bSo bNu ytr yiw wMa wPr bTp yln ypl yfa v1 = some z) : Ct l G yX5_part cX5_part 4 none (20 + 3 * d + 1) (600 + 66 * d + 22) [.ref (q 0), .int v1] (mW G q yp ye yg bPo bTb wSh wTe wNx bOs bOn yop bSo bNu ytr yiw wMa wPr bTp yln ypl yfa wLi bSi yhp yhe yhg wHs yhi ++ fr) (none) (mW G q yp ye yg bPo bTb wSh wTe wNx z.1 z.2.1 z.2.2.1 z.2.2.2.1 z.2.2.2.2.1 z.2.2.2.2.2.1 z.2.2.2.2.2.2.1 z.2.2.2.2.2.2.2.1 z.2.2.2.2.2.2.2.2.1 bTp yln z.2.2.2.2.2.2.2.2.2.1 z.2.2.2.2.2.2.2.2.2.2 wLi bSi yhp yhe yhg wHs yhi ++ fr) := by
  refine Ct.of (by decide +kernel) (Nat.le_of_ble_eq_true rfl) trivial ?_
  intro p e s m args below meth c Q A ls F hw hA hE hl
  have hx := F.x
  have hb := F.b
  unfold f_X5_part at h
  obtain ⟨H, hH⟩ : ∃ H, H = s.heap := ⟨_, rfl⟩
  obtain ⟨locs, hlo⟩ : ∃ locs : List Loc, locs = [] := ⟨_, rfl⟩
  rw [← hH, ← hlo] at hw ⊢
  have hl : lv_has ls 4 [(0, .ref (q 0)), (1, .int v1)] := hl
  refine lv_aload_n hx hb dX5_part_0 rfl (lv_at hl 0 rfl) ?_
  obtain ⟨z1, hz1, h⟩ := stB h
  refine ctV (av := []) (st0 := ([] : List Value)) (st1 := ([.int z1] : List Value)) F hw hA (k_X5_isFigure hz1) kl_5_229 kd_X5_isFigure rfl ⟨by omega, by omega⟩ 0 rfl rfl hl.1 rfl (Nat.le_of_ble_eq_true rfl) dX5_part_1 rfl (fun H locs hw => ?_)
  refine lv_if_eq (tgt := 21) hx hb dX5_part_4 (by decide) (fun c2 => ?_) (fun c2 => ?_)
  · replace h := stT c2 h
    refine lv_aload_n hx hb dX5_part_21 rfl (lv_at hl 0 rfl) ?_
    refine lv_bipush (v := 110) hx hb dX5_part_22 (by decide) ?_
    obtain ⟨z3, hz3, h⟩ := stB h
    refine ctV (av := [.int 110]) (st0 := ([] : List Value)) (st1 := ([.int z3] : List Value)) F hw hA (k_X5_isNext hz3) kl_5_240 kd_X5_isNext rfl ⟨by omega, by omega⟩ 0 rfl rfl hl.1 rfl (Nat.le_of_ble_eq_true rfl) dX5_part_24 rfl (fun H locs hw => ?_)
    refine lv_if_eq (tgt := 115) hx hb dX5_part_27 (by decide) (fun c4 => ?_) (fun c4 => ?_)
    · replace h := stT c4 h
      refine lv_aload_n hx hb dX5_part_115 rfl (lv_at hl 0 rfl) ?_
      refine lv_bipush (v := 40) hx hb dX5_part_116 (by decide) ?_
      obtain ⟨z5, hz5, h⟩ := stB h
      refine ctV (av := [.int 40]) (st0 := ([] : List Value)) (st1 := ([.int z5] : List Value)) F hw hA (k_X5_isNext hz5) kl_5_240 kd_X5_isNext rfl ⟨by omega, by omega⟩ 0 rfl rfl hl.1 rfl (Nat.le_of_ble_eq_true rfl) dX5_part_118 rfl (fun H locs hw => ?_)
      refine lv_if_eq (tgt := 204) hx hb dX5_part_121 (by decide) (fun c6 => ?_) (fun c6 => ?_)
      · replace h := stT c6 h
        refine lv_aload_n hx hb dX5_part_204 rfl (lv_at hl 0 rfl) ?_
        refine lv_aload_n hx hb dX5_part_205 rfl (lv_at hl 0 rfl) ?_
        refine gf_5_219 F hw dX5_part_206 ?_
        obtain ⟨z7, hz7, h⟩ := stB h
        refine ctV (av := [.int ypl]) (st0 := ([] : List Value)) (st1 := ([] : List Value)) F hw hA (k_X5_faulty hz7) kl_5_233 kd_X5_faulty rfl ⟨by omega, by omega⟩ 0 rfl rfl hl.1 rfl (Nat.le_of_ble_eq_true rfl) dX5_part_209 rfl (fun H locs hw => ?_)
        obtain rfl := Option.some.inj h
        exact hE H locs _ ls hw dX5_part_212
      · replace h := stF c6 h
        refine lv_aload_n hx hb dX5_part_124 rfl (lv_at hl 0 rfl) ?_
        refine gf_5_147 F hw dX5_part_125 ?_
        refine lv_iconst (v := 5) hx hb dX5_part_128 (by decide) ?_
        refine lv_icmp_ge (tgt := 204) hx hb dX5_part_129 (by decide) (fun c8 => ?_) (fun c8 => ?_)
        · replace h := stT c8 h
          refine lv_aload_n hx hb dX5_part_204 rfl (lv_at hl 0 rfl) ?_
          refine lv_aload_n hx hb dX5_part_205 rfl (lv_at hl 0 rfl) ?_
          refine gf_5_219 F hw dX5_part_206 ?_
          obtain ⟨z9, hz9, h⟩ := stB h
          refine ctV (av := [.int ypl]) (st0 := ([] : List Value)) (st1 := ([] : List Value)) F hw hA (k_X5_faulty hz9) kl_5_233 kd_X5_faulty rfl ⟨by omega, by omega⟩ 0 rfl rfl hl.1 rfl (Nat.le_of_ble_eq_true rfl) dX5_part_209 rfl (fun H locs hw => ?_)
          obtain rfl := Option.some.inj h
          exact hE H locs _ ls hw dX5_part_212
        · replace h := stF c8 h
          refine lv_aload_n hx hb dX5_part_132 rfl (lv_at hl 0 rfl) ?_
          refine lv_bipush (v := 6) hx hb dX5_part_133 (by decide) ?_
          refine lv_aload_n hx hb dX5_part_135 rfl (lv_at hl 0 rfl) ?_
          refine gf_5_219 F hw dX5_part_136 ?_
          obtain ⟨z10, hz10, h⟩ := stB h
          refine ctV (av := [.int 6, .int ypl]) (st0 := ([] : List Value)) (st1 := ([] : List Value)) F hw hA (k_X5_opens hz10) kl_5_205 kd_X5_opens rfl ⟨by omega, by omega⟩ 0 rfl rfl hl.1 rfl (Nat.le_of_ble_eq_true rfl) dX5_part_139 rfl (fun H locs hw => ?_)
          refine lv_aload_n hx hb dX5_part_142 rfl (lv_at hl 0 rfl) ?_
          refine lv_dup hx hb dX5_part_143 rfl ?_
          refine gf_5_219 F hw dX5_part_144 ?_
          refine lv_iconst (v := 1) hx hb dX5_part_147 (by decide) ?_
          refine lv_iadd hx hb dX5_part_148 ?_
          refine pf_5_219 F hw dX5_part_149 (fun H locs hw => ?_)
          refine lv_aload_n hx hb dX5_part_152 rfl (lv_at hl 0 rfl) ?_
          refine lv_iload_n hx hb dX5_part_153 rfl (lv_at hl 1 rfl) ?_
          obtain ⟨z11, hz11, h⟩ := stB h
          refine ctV (av := [.int v1]) (st0 := ([] : List Value)) (st1 := ([] : List Value)) F hw hA (hRS _ _ _ _ _ _ _ _ _ _ _ _ _ _ _ _ _ _ _ _ _ _ _ _ _ _ _ _ _ _ _ hz11) kl_5_243 kd_X5_sum rfl ⟨by omega, by omega⟩ 0 rfl rfl hl.1 rfl (Nat.le_of_ble_eq_true rfl) dX5_part_154 rfl (fun H locs hw => ?_)
          refine lv_aload_n hx hb dX5_part_157 rfl (lv_at hl 0 rfl) ?_
          refine gf_5_150 F hw dX5_part_158 ?_
          refine lv_if_ne (tgt := 181) hx hb dX5_part_161 (by decide) (fun c12 => ?_) (fun c12 => ?_)
          · replace h := stF c12 h
            refine lv_aload_n hx hb dX5_part_181 rfl (lv_at hl 0 rfl) ?_
            refine lv_dup hx hb dX5_part_182 rfl ?_
            refine gf_5_219 F hw dX5_part_183 ?_
            refine lv_iconst (v := 1) hx hb dX5_part_186 (by decide) ?_
            refine lv_iadd hx hb dX5_part_187 ?_
            refine pf_5_219 F hw dX5_part_188 (fun H locs hw => ?_)
            refine lv_aload_n hx hb dX5_part_191 rfl (lv_at hl 0 rfl) ?_
            refine lv_dup hx hb dX5_part_192 rfl ?_
            refine gf_5_147 F hw dX5_part_193 ?_
            refine lv_iconst (v := 1) hx hb dX5_part_196 (by decide) ?_
            refine lv_isub hx hb dX5_part_197 ?_
            refine pf_5_147 F hw dX5_part_198 (fun H locs hw => ?_)
            refine lv_goto (tgt := 212) hx hb dX5_part_201 (by decide) ?_
            obtain rfl := Option.some.inj h
            exact hE H locs _ ls hw dX5_part_212
          · replace h := stT c12 h
            refine lv_aload_n hx hb dX5_part_164 rfl (lv_at hl 0 rfl) ?_
            refine lv_bipush (v := 41) hx hb dX5_part_165 (by decide) ?_
            obtain ⟨z13, hz13, h⟩ := stB h
            refine ctV (av := [.int 41]) (st0 := ([] : List Value)) (st1 := ([.int z13] : List Value)) F hw hA (k_X5_isNext hz13) kl_5_240 kd_X5_isNext rfl ⟨by omega, by omega⟩ 0 rfl rfl hl.1 rfl (Nat.le_of_ble_eq_true rfl) dX5_part_167 rfl (fun H locs hw => ?_)
            refine lv_if_ne (tgt := 181) hx hb dX5_part_170 (by decide) (fun c14 => ?_) (fun c14 => ?_)
            · replace h := stF c14 h
              refine lv_aload_n hx hb dX5_part_181 rfl (lv_at hl 0 rfl) ?_
              refine lv_dup hx hb dX5_part_182 rfl ?_
              refine gf_5_219 F hw dX5_part_183 ?_
              refine lv_iconst (v := 1) hx hb dX5_part_186 (by decide) ?_
              refine lv_iadd hx hb dX5_part_187 ?_
              refine pf_5_219 F hw dX5_part_188 (fun H locs hw => ?_)
              refine lv_aload_n hx hb dX5_part_191 rfl (lv_at hl 0 rfl) ?_
              refine lv_dup hx hb dX5_part_192 rfl ?_
              refine gf_5_147 F hw dX5_part_193 ?_
              refine lv_iconst (v := 1) hx hb dX5_part_196 (by decide) ?_
              refine lv_isub hx hb dX5_part_197 ?_
              refine pf_5_147 F hw dX5_part_198 (fun H locs hw => ?_)
              refine lv_goto (tgt := 212) hx hb dX5_part_201 (by decide) ?_
              obtain rfl := Option.some.inj h
              exact hE H locs _ ls hw dX5_part_212
            · replace h := stT c14 h
              refine lv_aload_n hx hb dX5_part_173 rfl (lv_at hl 0 rfl) ?_
              refine lv_aload_n hx hb dX5_part_174 rfl (lv_at hl 0 rfl) ?_
              refine gf_5_219 F hw dX5_part_175 ?_
              obtain ⟨z15, hz15, h⟩ := stB h
              refine ctV (av := [.int z11.2.2.2.2.2.2.2.2.2.1]) (st0 := ([] : List Value)) (st1 := ([] : List Value)) F hw hA (k_X5_faulty hz15) kl_5_233 kd_X5_faulty rfl ⟨by omega, by omega⟩ 0 rfl rfl hl.1 rfl (Nat.le_of_ble_eq_true rfl) dX5_part_178 rfl (fun H locs hw => ?_)
              refine lv_aload_n hx hb dX5_part_181 rfl (lv_at hl 0 rfl) ?_
              refine lv_dup hx hb dX5_part_182 rfl ?_
              refine gf_5_219 F hw dX5_part_183 ?_
              refine lv_iconst (v := 1) hx hb dX5_part_186 (by decide) ?_
              refine lv_iadd hx hb dX5_part_187 ?_
              refine pf_5_219 F hw dX5_part_188 (fun H locs hw => ?_)
              refine lv_aload_n hx hb dX5_part_191 rfl (lv_at hl 0 rfl) ?_
              refine lv_dup hx hb dX5_part_192 rfl ?_
              refine gf_5_147 F hw dX5_part_193 ?_
              refine lv_iconst (v := 1) hx hb dX5_part_196 (by decide) ?_
              refine lv_isub hx hb dX5_part_197 ?_
              refine pf_5_147 F hw dX5_part_198 (fun H locs hw => ?_)
              refine lv_goto (tgt := 212) hx hb dX5_part_201 (by decide) ?_
              obtain rfl := Option.some.inj h
              exact hE H locs _ ls hw dX5_part_212
    · replace h := stF c4 h
      refine lv_aload_n hx hb dX5_part_30 rfl (lv_at hl 0 rfl) ?_
      refine lv_dup hx hb dX5_part_31 rfl ?_
      refine gf_5_219 F hw dX5_part_32 ?_
      refine lv_iconst (v := 1) hx hb dX5_part_35 (by decide) ?_
      refine lv_iadd hx hb dX5_part_36 ?_
      refine pf_5_219 F hw dX5_part_37 (fun H locs hw => ?_)
      refine lv_aload_n hx hb dX5_part_40 rfl (lv_at hl 0 rfl) ?_
      refine lv_iconst (v := 2) hx hb dX5_part_41 (by decide) ?_
      obtain ⟨z16, hz16, h⟩ := stB h
      refine ctV (av := [.int 2]) (st0 := ([] : List Value)) (st1 := ([.int z16.1] : List Value)) F hw hA (k_X5_figures hz16) kl_5_237 kd_X5_figures rfl ⟨by omega, by omega⟩ 0 rfl rfl hl.1 rfl (Nat.le_of_ble_eq_true rfl) dX5_part_42 rfl (fun H locs hw => ?_)
      refine lv_istore_n (lv' := [(2, .int z16.1), (0, .ref (q 0)), (1, .int v1)]) hx hb dX5_part_45 rfl hl (by decide) rfl (fun ls hl => ?_)
      refine lv_aload_n hx hb dX5_part_46 rfl (lv_at hl 1 rfl) ?_
      refine gf_5_150 F hw dX5_part_47 ?_
      refine lv_if_ne (tgt := 71) hx hb dX5_part_50 (by decide) (fun c17 => ?_) (fun c17 => ?_)
      · replace h := stF c17 h
        refine lv_iconst (v := 0) hx hb dX5_part_71 (by decide) ?_
        refine lv_istore_n (lv' := [(3, .int 0), (2, .int z16.1), (0, .ref (q 0)), (1, .int v1)]) hx hb dX5_part_72 rfl hl (by decide) rfl (fun ls hl => ?_)
        exact w_X5_part_L73 F hA hRS FU _ _ _ _ _ _ _ _ _ _ _ _ _ z h hE H locs ls hw (lv_sub hl [2, 3, 1, 0] rfl)
      · replace h := stT c17 h
        refine lv_aload_n hx hb dX5_part_53 rfl (lv_at hl 1 rfl) ?_
        refine lv_iload_n hx hb dX5_part_54 rfl (lv_at hl 0 rfl) ?_
        obtain ⟨z18, hz18, h⟩ := stB h
        refine ctV (av := [.int z16.1]) (st0 := ([] : List Value)) (st1 := ([.int z18] : List Value)) F hw hA (k_X5_isClass hz18) kl_5_114 kd_X5_isClass rfl ⟨by omega, by omega⟩ 0 rfl rfl hl.1 rfl (Nat.le_of_ble_eq_true rfl) dX5_part_55 rfl (fun H locs hw => ?_)
        refine lv_if_ne (tgt := 71) hx hb dX5_part_58 (by decide) (fun c19 => ?_) (fun c19 => ?_)
        · replace h := stF c19 h
          refine lv_iconst (v := 0) hx hb dX5_part_71 (by decide) ?_
          refine lv_istore_n (lv' := [(3, .int 0), (2, .int z16.1), (0, .ref (q 0)), (1, .int v1)]) hx hb dX5_part_72 rfl hl (by decide) rfl (fun ls hl => ?_)
          exact w_X5_part_L73 F hA hRS FU _ _ _ _ _ _ _ _ _ _ _ _ _ z h hE H locs ls hw (lv_sub hl [2, 3, 1, 0] rfl)
        · replace h := stT c19 h
          refine lv_aload_n hx hb dX5_part_61 rfl (lv_at hl 1 rfl) ?_
          refine lv_aload_n hx hb dX5_part_62 rfl (lv_at hl 1 rfl) ?_
          refine gf_5_219 F hw dX5_part_63 ?_
          refine lv_iconst (v := 1) hx hb dX5_part_66 (by decide) ?_
          refine lv_isub hx hb dX5_part_67 ?_
          obtain ⟨z20, hz20, h⟩ := stB h
          refine ctV (av := [.int (z16.2.2.2.2.2.1 - 1)]) (st0 := ([] : List Value)) (st1 := ([] : List Value)) F hw hA (k_X5_faulty hz20) kl_5_233 kd_X5_faulty rfl ⟨by omega, by omega⟩ 0 rfl rfl hl.1 rfl (Nat.le_of_ble_eq_true rfl) dX5_part_68 rfl (fun H locs hw => ?_)
          refine lv_iconst (v := 0) hx hb dX5_part_71 (by decide) ?_
          refine lv_istore_n (lv' := [(3, .int 0), (2, .int z16.1), (0, .ref (q 0)), (1, .int v1)]) hx hb dX5_part_72 rfl hl (by decide) rfl (fun ls hl => ?_)
          exact w_X5_part_L73 F hA hRS FU _ _ _ _ _ _ _ _ _ _ _ _ _ z h hE H locs ls hw (lv_sub hl [2, 3, 1, 0] rfl)
  · replace h := stF c2 h
    refine lv_aload_n hx hb dX5_part_7 rfl (lv_at hl 0 rfl) ?_
    refine lv_iload_n hx hb dX5_part_8 rfl (lv_at hl 1 rfl) ?_
    refine lv_aload_n hx hb dX5_part_9 rfl (lv_at hl 0 rfl) ?_
    refine lv_iconst (v := 3) hx hb dX5_part_10 (by decide) ?_
    obtain ⟨z21, hz21, h⟩ := stB h
    refine ctV (av := [.int 3]) (st0 := ([.int v1, .ref (q 0)] : List Value)) (st1 := ([.int z21.1, .int v1, .ref (q 0)] : List Value)) F hw hA (k_X5_figures hz21) kl_5_237 kd_X5_figures rfl ⟨by omega, by omega⟩ 0 rfl rfl hl.1 rfl (Nat.le_of_ble_eq_true rfl) dX5_part_11 rfl (fun H locs hw => ?_)
    refine lv_i2l (v := z21.1.toInt64) hx hb dX5_part_14 rfl ?_
    obtain ⟨z22, hz22, h⟩ := stB h
    refine ctV (av := [.int v1, .long z21.1.toInt64]) (st0 := ([] : List Value)) (st1 := ([] : List Value)) F hw hA (k_X5_becomesWhole hz22) kl_5_179 kd_X5_becomesWhole rfl ⟨by omega, by omega⟩ 0 rfl rfl hl.1 rfl (Nat.le_of_ble_eq_true rfl) dX5_part_15 rfl (fun H locs hw => ?_)
    refine lv_goto (tgt := 212) hx hb dX5_part_18 (by decide) ?_
    obtain rfl := Option.some.inj h
    exact hE H locs _ ls hw dX5_part_212
end
theorem dX5_productTold_0 : decode cX5_productTold 0 = .ok (.aload_n 0, 1) := by decide +kernel
theorem dX5_productTold_1 : decode cX5_productTold 1 = .ok (.iload_n 1, 1) := by decide +kernel
theorem dX5_productTold_2 : decode cX5_productTold 2 = .ok (.invokevirtual 246, 3) := by decide +kernel
theorem dX5_productTold_5 : decode cX5_productTold 5 = .ok (.aload_n 0, 1) := by decide +kernel
theorem dX5_productTold_6 : decode cX5_productTold 6 = .ok (.getfield 150, 3) := by decide +kernel
theorem dX5_productTold_9 : decode cX5_productTold 9 = .ok (.ifCond .ne 47, 3) := by decide +kernel
theorem dX5_productTold_12 : decode cX5_productTold 12 = .ok (.aload_n 0, 1) := by decide +kernel
theorem dX5_productTold_13 : decode cX5_productTold 13 = .ok (.bipush 42, 2) := by decide +kernel
theorem dX5_productTold_15 : decode cX5_productTold 15 = .ok (.invokevirtual 240, 3) := by decide +kernel
theorem dX5_productTold_18 : decode cX5_productTold 18 = .ok (.ifCond .eq 38, 3) := by decide +kernel
theorem dX5_productTold_21 : decode cX5_productTold 21 = .ok (.aload_n 0, 1) := by decide +kernel
theorem dX5_productTold_22 : decode cX5_productTold 22 = .ok (.dup, 1) := by decide +kernel
theorem dX5_productTold_23 : decode cX5_productTold 23 = .ok (.getfield 219, 3) := by decide +kernel
theorem dX5_productTold_26 : decode cX5_productTold 26 = .ok (.iconst 1, 1) := by decide +kernel
theorem dX5_productTold_27 : decode cX5_productTold 27 = .ok (.iadd, 1) := by decide +kernel
theorem dX5_productTold_28 : decode cX5_productTold 28 = .ok (.putfield 219, 3) := by decide +kernel
theorem dX5_productTold_31 : decode cX5_productTold 31 = .ok (.aload_n 0, 1) := by decide +kernel
theorem dX5_productTold_32 : decode cX5_productTold 32 = .ok (.iload_n 1, 1) := by decide +kernel
theorem dX5_productTold_33 : decode cX5_productTold 33 = .ok (.iconst 1, 1) := by decide +kernel
theorem dX5_productTold_34 : decode cX5_productTold 34 = .ok (.iadd, 1) := by decide +kernel
theorem dX5_productTold_35 : decode cX5_productTold 35 = .ok (.invokevirtual 246, 3) := by decide +kernel
theorem dX5_productTold_38 : decode cX5_productTold 38 = .ok (.aload_n 0, 1) := by decide +kernel
theorem dX5_productTold_39 : decode cX5_productTold 39 = .ok (.getfield 150, 3) := by decide +kernel
theorem dX5_productTold_42 : decode cX5_productTold 42 = .ok (.ifCond .ne (-37), 3) := by decide +kernel
theorem dX5_productTold_45 : decode cX5_productTold 45 = .ok (.aload_n 0, 1) := by decide +kernel
theorem dX5_productTold_46 : decode cX5_productTold 46 = .ok (.iload_n 1, 1) := by decide +kernel
theorem dX5_productTold_47 : decode cX5_productTold 47 = .ok (.iload_n 1, 1) := by decide +kernel
theorem dX5_productTold_48 : decode cX5_productTold 48 = .ok (.iconst 1, 1) := by decide +kernel
theorem dX5_productTold_49 : decode cX5_productTold 49 = .ok (.iadd, 1) := by decide +kernel
theorem dX5_productTold_50 : decode cX5_productTold 50 = .ok (.invokevirtual 200, 3) := by decide +kernel
theorem dX5_productTold_53 : decode cX5_productTold 53 = .ok (.goto (-48), 3) := by decide +kernel
theorem dX5_productTold_56 : decode cX5_productTold 56 = .ok (.return_, 1) := by decide +kernel
section
variable {p : Program} {l : Launch} {e : Env} {s : State} {m : MethodId} {args : Array Value} {below : List Frame} {meth : Method} {c : Code} {Q : State → Prop} {G : GG} {A : Nat → Prop} {q : Nat → Nat} {fr : va_W}
def f_X5_productTold_L5 (RS : Int32 → Int32 → (Nat → Int32) → (Nat → Int32) → (Nat → Int32) → (Nat → Int32) → Int32 → (Nat → Int32) → (Nat → Int32) → Int32 → Int32 → (Nat → Int64) → (Nat → Int64) → (Nat → Int32) → Int32 → Int32 → Int32 → Int32 → Option ((Nat → Int32) × (Nat → Int32) × Int32 × (Nat → Int32) × (Nat → Int32) × Int32 × Int32 × (Nat → Int64) × (Nat → Int64) × Int32 × Int32)) (yp : Int32) (ye : Int32) (bPo : Nat → Int32) (bTb : Nat → Int32) (bTp : Nat → Int32) (yln : Int32) (v1 : Int32) : Nat → (Nat → Int32) → (Nat → Int32) → Int32 → (Nat → Int32) → (Nat → Int32) → Int32 → Int32 → (Nat → Int64) → (Nat → Int64) → Int32 → Int32 → Option ((Nat → Int32) × (Nat → Int32) × Int32 × (Nat → Int32) × (Nat → Int32) × Int32 × Int32 × (Nat → Int64) × (Nat → Int64) × Int32 × Int32)
  | 0, _, _, _, _, _, _, _, _, _, _, _ => none
  | fu + 1, bOs, bOn, yop, bSo, bNu, ytr, yiw, wMa, wPr, ypl, yfa =>
    if yiw = 0 then
    (f_X5_isNext bTp yln ypl 42).bind fun z2 =>
    if z2 = 0 then
    some (bOs, bOn, yop, bSo, bNu, ytr, yiw, wMa, wPr, ypl, yfa)
    else
    (f_X5_part RS yp ye bPo bTb bOs bOn yop bSo bNu ytr yiw wMa wPr bTp yln (ypl + 1) yfa (v1 + 1)).bind fun z4 =>
    if z4.2.2.2.2.2.2.1 = 0 then
    (f_X5_multiplies yp ye bPo bTb z4.1 z4.2.1 z4.2.2.1 z4.2.2.2.1 z4.2.2.2.2.1 z4.2.2.2.2.2.1 z4.2.2.2.2.2.2.1 z4.2.2.2.2.2.2.2.1 z4.2.2.2.2.2.2.2.2.1 v1 (v1 + 1)).bind fun z6 =>
    f_X5_productTold_L5 RS yp ye bPo bTb bTp yln v1 fu z4.1 z4.2.1 z4.2.2.1 z6.1 z6.2.1 z6.2.2.1 z6.2.2.2.1 z6.2.2.2.2.1 z6.2.2.2.2.2 z4.2.2.2.2.2.2.2.2.2.1 z4.2.2.2.2.2.2.2.2.2.2
    else
    f_X5_productTold_L5 RS yp ye bPo bTb bTp yln v1 fu z4.1 z4.2.1 z4.2.2.1 z4.2.2.2.1 z4.2.2.2.2.1 z4.2.2.2.2.2.1 z4.2.2.2.2.2.2.1 z4.2.2.2.2.2.2.2.1 z4.2.2.2.2.2.2.2.2.1 z4.2.2.2.2.2.2.2.2.2.1 z4.2.2.2.2.2.2.2.2.2.2
    else
    some (bOs, bOn, yop, bSo, bNu, ytr, yiw, wMa, wPr, ypl, yfa)
set_option maxHeartbeats 4000000 in
set_option maxRecDepth 100000 in
theorem w_X5_productTold_L5 {d : Nat} {RS : Int32 → Int32 → (Nat → Int32) → (Nat → Int32) → (Nat → Int32) → (Nat → Int32) → Int32 → (Nat → Int32) → (Nat → Int32) → Int32 → Int32 → (Nat → Int64) → (Nat → Int64) → (Nat → Int32) → Int32 → Int32 → Int32 → Int32 → Option ((Nat → Int32) × (Nat → Int32) × Int32 × (Nat → Int32) × (Nat → Int32) × Int32 × Int32 × (Nat → Int64) × (Nat → Int64) × Int32 × Int32)} {yp : Int32} {ye : Int32} {yg : Int32} {bPo : Nat → Int32} {bTb : Nat → Int32} {wSh : Nat → Int64} {wTe : Nat → Int64} {wNx : Nat → Int64} {bTp : Nat → Int32} {yln : Int32} {wLi : Nat → Int64} {bSi : Nat → Int32} {yhp : Int32} {yhe : Int32} {yhg : Int32} {wHs : Nat → Int64} {yhi : Int32} {v1 : Int32}  (F : Fx p s m args meth c cX5_productTold 2 RX5 none) (hA : ∀ q, s.heap.size ≤ q → A q) (hRS : ∀ (fr : va_W) (yp : Int32) (ye : Int32) (yg : Int32) (bPo : Nat → Int32) (bTb : Nat → Int32) (wSh : Nat → Int64) (wTe : Nat → Int64) (wNx : Nat → Int64) (bOs : Nat → Int32) (bOn : Nat → Int32) (yop : Int32) (bSo : Nat → Int32) (bNu : Nat → Int32) (ytr : Int32) (yiw : Int32) (wMa : Nat → Int64) (wPr : Nat → Int64) (bTp : Nat → Int32) (yln : Int32) (ypl : Int32) (yfa : Int32) (wLi : Nat → Int64) (bSi : Nat → Int32) (yhp : Int32) (yhe : Int32) (yhg : Int32) (wHs : Nat → Int64) (yhi : Int32) (v1 : Int32) (z : (Nat → Int32) × (Nat → Int32) × Int32 × (Nat → Int32) × (Nat → Int32) × Int32 × Int32 × (Nat → Int64) × (Nat → Int64) × Int32 × Int32), RS yp ye bPo bTb bOs bOn yop bSo bNu ytr yiw wMa wPr bTp yln ypl yfa v1 = some z → Ct l G yX5_sum cX5_sum 3 none (20 + 3 * d) (600 + 66 * d) [.ref (q 0), .int v1] (mW G q yp ye yg bPo bTb wSh wTe wNx bOs bOn yop bSo bNu ytr yiw wMa wPr bTp yln ypl yfa wLi bSi yhp yhe yhg wHs yhi ++ fr) (none) (mW G q yp ye yg bPo bTb wSh wTe wNx z.1 z.2.1 z.2.2.1 z.2.2.2.1 z.2.2.2.2.1 z.2.2.2.2.2.1 z.2.2.2.2.2.2.1 z.2.2.2.2.2.2.2.1 z.2.2.2.2.2.2.2.2.1 bTp yln z.2.2.2.2.2.2.2.2.2.1 z.2.2.2.2.2.2.2.2.2.2 wLi bSi yhp yhe yhg wHs yhi ++ fr))  : ∀ (fu : Nat) (bOs : Nat → Int32) (bOn : Nat → Int32) (yop : Int32) (bSo : Nat → Int32) (bNu : Nat → Int32) (ytr : Int32) (yiw : Int32) (wMa : Nat → Int64) (wPr : Nat → Int64) (ypl : Int32) (yfa : Int32) (z : (Nat → Int32) × (Nat → Int32) × Int32 × (Nat → Int32) × (Nat → Int32) × Int32 × Int32 × (Nat → Int64) × (Nat → Int64) × Int32 × Int32), f_X5_productTold_L5 RS yp ye bPo bTb bTp yln v1 fu bOs bOn yop bSo bNu ytr yiw wMa wPr ypl yfa = some z → Ends p l e (rmOf (20 + 3 * d + 2) (600 + 66 * d + 45)) s m args below meth c Q cX5_productTold G A none (none) (mW G q yp ye yg bPo bTb wSh wTe wNx z.1 z.2.1 z.2.2.1 z.2.2.2.1 z.2.2.2.2.1 z.2.2.2.2.2.1 z.2.2.2.2.2.2.1 z.2.2.2.2.2.2.2.1 z.2.2.2.2.2.2.2.2.1 bTp yln z.2.2.2.2.2.2.2.2.2.1 z.2.2.2.2.2.2.2.2.2.2 wLi bSi yhp yhe yhg wHs yhi ++ fr) → ∀ (H : Heap) (locs : List Loc) (ls : Array Slot), Wd G s A (mW G q yp ye yg bPo bTb wSh wTe wNx bOs bOn yop bSo bNu ytr yiw wMa wPr bTp yln ypl yfa wLi bSi yhp yhe yhg wHs yhi ++ fr) H locs → lv_has ls 2 [(0, .ref (q 0)), (1, .int v1)] → W p l e (rmOf (20 + 3 * d + 2) (600 + 66 * d + 45)) s m args below meth c H locs 0 0 Q (F0 m 5 ls []) := by
  have hx := F.x
  have hb := F.b
  intro fu
  induction fu with
  | zero =>
    intro bOs bOn yop bSo bNu ytr yiw wMa wPr ypl yfa z h
    cases (h : none = some z)
  | succ fu ih =>
    intro bOs bOn yop bSo bNu ytr yiw wMa wPr ypl yfa z h hE H locs ls hw hl
    rw [f_X5_productTold_L5] at h
    refine lv_aload_n hx hb dX5_productTold_5 rfl (lv_at hl 0 rfl) ?_
    refine gf_5_150 F hw dX5_productTold_6 ?_
    refine lv_if_ne (tgt := 56) hx hb dX5_productTold_9 (by decide) (fun c1 => ?_) (fun c1 => ?_)
    · replace h := stF c1 h
      obtain rfl := Option.some.inj h
      exact hE H locs _ ls hw dX5_productTold_56
    · replace h := stT c1 h
      refine lv_aload_n hx hb dX5_productTold_12 rfl (lv_at hl 0 rfl) ?_
      refine lv_bipush (v := 42) hx hb dX5_productTold_13 (by decide) ?_
      obtain ⟨z2, hz2, h⟩ := stB h
      refine ctV (av := [.int 42]) (st0 := ([] : List Value)) (st1 := ([.int z2] : List Value)) F hw hA (k_X5_isNext hz2) kl_5_240 kd_X5_isNext rfl ⟨by omega, by omega⟩ 0 rfl rfl hl.1 rfl (Nat.le_of_ble_eq_true rfl) dX5_productTold_15 rfl (fun H locs hw => ?_)
      refine lv_if_eq (tgt := 56) hx hb dX5_productTold_18 (by decide) (fun c3 => ?_) (fun c3 => ?_)
      · replace h := stT c3 h
        obtain rfl := Option.some.inj h
        exact hE H locs _ ls hw dX5_productTold_56
      · replace h := stF c3 h
        refine lv_aload_n hx hb dX5_productTold_21 rfl (lv_at hl 0 rfl) ?_
        refine lv_dup hx hb dX5_productTold_22 rfl ?_
        refine gf_5_219 F hw dX5_productTold_23 ?_
        refine lv_iconst (v := 1) hx hb dX5_productTold_26 (by decide) ?_
        refine lv_iadd hx hb dX5_productTold_27 ?_
        refine pf_5_219 F hw dX5_productTold_28 (fun H locs hw => ?_)
        refine lv_aload_n hx hb dX5_productTold_31 rfl (lv_at hl 0 rfl) ?_
        refine lv_iload_n hx hb dX5_productTold_32 rfl (lv_at hl 1 rfl) ?_
        refine lv_iconst (v := 1) hx hb dX5_productTold_33 (by decide) ?_
        refine lv_iadd hx hb dX5_productTold_34 ?_
        obtain ⟨z4, hz4, h⟩ := stB h
        refine ctV (av := [.int (v1 + 1)]) (st0 := ([] : List Value)) (st1 := ([] : List Value)) F hw hA (k_X5_part hRS hz4) kl_5_246 kd_X5_part rfl ⟨by omega, by omega⟩ 0 rfl rfl hl.1 rfl (Nat.le_of_ble_eq_true rfl) dX5_productTold_35 rfl (fun H locs hw => ?_)
        refine lv_aload_n hx hb dX5_productTold_38 rfl (lv_at hl 0 rfl) ?_
        refine gf_5_150 F hw dX5_productTold_39 ?_
        refine lv_if_ne (tgt := 5) hx hb dX5_productTold_42 (by decide) (fun c5 => ?_) (fun c5 => ?_)
        · replace h := stF c5 h
          exact ih _ _ _ _ _ _ _ _ _ _ _ z h hE H locs ls hw (lv_sub hl [0, 1] rfl)
        · replace h := stT c5 h
          refine lv_aload_n hx hb dX5_productTold_45 rfl (lv_at hl 0 rfl) ?_
          refine lv_iload_n hx hb dX5_productTold_46 rfl (lv_at hl 1 rfl) ?_
          refine lv_iload_n hx hb dX5_productTold_47 rfl (lv_at hl 1 rfl) ?_
          refine lv_iconst (v := 1) hx hb dX5_productTold_48 (by decide) ?_
          refine lv_iadd hx hb dX5_productTold_49 ?_
          obtain ⟨z6, hz6, h⟩ := stB h
          refine ctV (av := [.int v1, .int (v1 + 1)]) (st0 := ([] : List Value)) (st1 := ([] : List Value)) F hw hA (k_X5_multiplies hz6) kl_5_200 kd_X5_multiplies rfl ⟨by omega, by omega⟩ 0 rfl rfl hl.1 rfl (Nat.le_of_ble_eq_true rfl) dX5_productTold_50 rfl (fun H locs hw => ?_)
          refine lv_goto (tgt := 5) hx hb dX5_productTold_53 (by decide) ?_
          exact ih _ _ _ _ _ _ _ _ _ _ _ z h hE H locs ls hw (lv_sub hl [0, 1] rfl)
def f_X5_productTold (RS : Int32 → Int32 → (Nat → Int32) → (Nat → Int32) → (Nat → Int32) → (Nat → Int32) → Int32 → (Nat → Int32) → (Nat → Int32) → Int32 → Int32 → (Nat → Int64) → (Nat → Int64) → (Nat → Int32) → Int32 → Int32 → Int32 → Int32 → Option ((Nat → Int32) × (Nat → Int32) × Int32 × (Nat → Int32) × (Nat → Int32) × Int32 × Int32 × (Nat → Int64) × (Nat → Int64) × Int32 × Int32)) (yp : Int32) (ye : Int32) (bPo : Nat → Int32) (bTb : Nat → Int32) (bOs : Nat → Int32) (bOn : Nat → Int32) (yop : Int32) (bSo : Nat → Int32) (bNu : Nat → Int32) (ytr : Int32) (yiw : Int32) (wMa : Nat → Int64) (wPr : Nat → Int64) (bTp : Nat → Int32) (yln : Int32) (ypl : Int32) (yfa : Int32) (v1 : Int32) : Option ((Nat → Int32) × (Nat → Int32) × Int32 × (Nat → Int32) × (Nat → Int32) × Int32 × Int32 × (Nat → Int64) × (Nat → Int64) × Int32 × Int32) :=
  (f_X5_part RS yp ye bPo bTb bOs bOn yop bSo bNu ytr yiw wMa wPr bTp yln ypl yfa v1).bind fun z1 =>
  f_X5_productTold_L5 RS yp ye bPo bTb bTp yln v1 FU z1.1 z1.2.1 z1.2.2.1 z1.2.2.2.1 z1.2.2.2.2.1 z1.2.2.2.2.2.1 z1.2.2.2.2.2.2.1 z1.2.2.2.2.2.2.2.1 z1.2.2.2.2.2.2.2.2.1 z1.2.2.2.2.2.2.2.2.2.1 z1.2.2.2.2.2.2.2.2.2.2
set_option maxHeartbeats 4000000 in
set_option maxRecDepth 100000 in
theorem k_X5_productTold {l : Launch} {G : GG} {q : Nat → Nat} {fr : va_W} {d : Nat} {RS : Int32 → Int32 → (Nat → Int32) → (Nat → Int32) → (Nat → Int32) → (Nat → Int32) → Int32 → (Nat → Int32) → (Nat → Int32) → Int32 → Int32 → (Nat → Int64) → (Nat → Int64) → (Nat → Int32) → Int32 → Int32 → Int32 → Int32 → Option ((Nat → Int32) × (Nat → Int32) × Int32 × (Nat → Int32) × (Nat → Int32) × Int32 × Int32 × (Nat → Int64) × (Nat → Int64) × Int32 × Int32)} {yp : Int32} {ye : Int32} {yg : Int32} {bPo : Nat → Int32} {bTb : Nat → Int32} {wSh : Nat → Int64} {wTe : Nat → Int64} {wNx : Nat → Int64} {bOs : Nat → Int32} {bOn : Nat → Int32} {yop : Int32} {bSo : Nat → Int32} {bNu : Nat → Int32} {ytr : Int32} {yiw : Int32} {wMa : Nat → Int64} {wPr : Nat → Int64} {bTp : Nat → Int32} {yln : Int32} {ypl : Int32} {yfa : Int32} {wLi : Nat → Int64} {bSi : Nat → Int32} {yhp : Int32} {yhe : Int32} {yhg : Int32} {wHs : Nat → Int64} {yhi : Int32} {v1 : Int32} {z : (Nat → Int32) × (Nat → Int32) × Int32 × (Nat → Int32) × (Nat → Int32) × Int32 × Int32 × (Nat → Int64) × (Nat → Int64) × Int32 × Int32} (hRS : ∀ (fr : va_W) (yp : Int32) (ye : Int32) (yg : Int32) (bPo : Nat → Int32) (bTb : Nat → Int32) (wSh : Nat → Int64) (wTe : Nat → Int64) (wNx : Nat → Int64) (bOs : Nat → Int32) (bOn : Nat → Int32) (yop : Int32) (bSo : Nat → Int32) (bNu : Nat → Int32) (ytr : Int32) (yiw : Int32) (wMa : Nat → Int64) (wPr : Nat → Int64) (bTp : Nat → Int32) (yln : Int32) (ypl : Int32) (yfa : Int32) (wLi : Nat → Int64) (bSi : Nat → Int32) (yhp : Int32) (yhe : Int32) (yhg : Int32) (wHs : Nat → Int64) (yhi : Int32) (v1 : Int32) (z : (Nat → Int32) × (Nat → Int32) × Int32 × (Nat → Int32) × (Nat → Int32) × Int32 × Int32 × (Nat → Int64) × (Nat → Int64) × Int32 × Int32), RS yp ye bPo bTb bOs bOn yop bSo bNu ytr yiw wMa wPr bTp yln ypl yfa v1 = some z → Ct l G yX5_sum cX5_sum 3 none (20 + 3 * d) (600 + 66 * d) [.ref (q 0), .int v1] (mW G q yp ye yg bPo bTb wSh wTe wNx bOs bOn yop bSo bNu ytr yiw wMa wPr bTp yln ypl yfa wLi bSi yhp yhe yhg wHs yhi ++ fr) (none) (mW G q yp ye yg bPo bTb wSh wTe wNx z.1 z.2.1 z.2.2.1 z.2.2.2.1 z.2.2.2.2.1 z.2.2.2.2.2.1 z.2.2.2.2.2.2.1 z.2.2.2.2.2.2.2.1 z.2.2.2.2.2.2.2.2.1 bTp yln z.2.2.2.2.2.2.2.2.2.1 z.2.2.2.2.2.2.2.2.2.2 wLi bSi yhp yhe yhg wHs yhi ++ fr)) (h : f_X5_productTold RS yp ye bPo bTb bOs bOn yop bSo bNu ytr yiw wMa wPr bTp yln ypl yfa v1 = some z) : Ct l G yX5_productTold cX5_productTold 2 none (20 + 3 * d + 2) (600 + 66 * d + 45) [.ref (q 0), .int v1] (mW G q yp ye yg bPo bTb wSh wTe wNx bOs bOn yop bSo bNu ytr yiw wMa wPr bTp yln ypl yfa wLi bSi yhp yhe yhg wHs yhi ++ fr) (none) (mW G q yp ye yg bPo bTb wSh wTe wNx z.1 z.2.1 z.2.2.1 z.2.2.2.1 z.2.2.2.2.1 z.2.2.2.2.2.1 z.2.2.2.2.2.2.1 z.2.2.2.2.2.2.2.1 z.2.2.2.2.2.2.2.2.1 bTp yln z.2.2.2.2.2.2.2.2.2.1 z.2.2.2.2.2.2.2.2.2.2 wLi bSi yhp yhe yhg wHs yhi ++ fr) := by
  refine Ct.of (by decide +kernel) (Nat.le_of_ble_eq_true rfl) trivial ?_
  intro p e s m args below meth c Q A ls F hw hA hE hl
  have hx := F.x
  have hb := F.b
  unfold f_X5_productTold at h
  obtain ⟨H, hH⟩ : ∃ H, H = s.heap := ⟨_, rfl⟩
  obtain ⟨locs, hlo⟩ : ∃ locs : List Loc, locs = [] := ⟨_, rfl⟩
  rw [← hH, ← hlo] at hw ⊢
  have hl : lv_has ls 2 [(0, .ref (q 0)), (1, .int v1)] := hl
  refine lv_aload_n hx hb dX5_productTold_0 rfl (lv_at hl 0 rfl) ?_
  refine lv_iload_n hx hb dX5_productTold_1 rfl (lv_at hl 1 rfl) ?_
  obtain ⟨z1, hz1, h⟩ := stB h
  refine ctV (av := [.int v1]) (st0 := ([] : List Value)) (st1 := ([] : List Value)) F hw hA (k_X5_part hRS hz1) kl_5_246 kd_X5_part rfl ⟨by omega, by omega⟩ 0 rfl rfl hl.1 rfl (Nat.le_of_ble_eq_true rfl) dX5_productTold_2 rfl (fun H locs hw => ?_)
  exact w_X5_productTold_L5 F hA hRS FU _ _ _ _ _ _ _ _ _ _ _ z h hE H locs ls hw (lv_sub hl [0, 1] rfl)
end
theorem dX5_sum_0 : decode cX5_sum 0 = .ok (.aload_n 0, 1) := by decide +kernel
theorem dX5_sum_1 : decode cX5_sum 1 = .ok (.iload_n 1, 1) := by decide +kernel
theorem dX5_sum_2 : decode cX5_sum 2 = .ok (.invokevirtual 249, 3) := by decide +kernel
theorem dX5_sum_5 : decode cX5_sum 5 = .ok (.aload_n 0, 1) := by decide +kernel
theorem dX5_sum_6 : decode cX5_sum 6 = .ok (.getfield 150, 3) := by decide +kernel
theorem dX5_sum_9 : decode cX5_sum 9 = .ok (.ifCond .ne 64, 3) := by decide +kernel
theorem dX5_sum_12 : decode cX5_sum 12 = .ok (.aload_n 0, 1) := by decide +kernel
theorem dX5_sum_13 : decode cX5_sum 13 = .ok (.bipush 43, 2) := by decide +kernel
theorem dX5_sum_15 : decode cX5_sum 15 = .ok (.invokevirtual 240, 3) := by decide +kernel
theorem dX5_sum_18 : decode cX5_sum 18 = .ok (.ifCond .ne 12, 3) := by decide +kernel
theorem dX5_sum_21 : decode cX5_sum 21 = .ok (.aload_n 0, 1) := by decide +kernel
theorem dX5_sum_22 : decode cX5_sum 22 = .ok (.bipush 45, 2) := by decide +kernel
theorem dX5_sum_24 : decode cX5_sum 24 = .ok (.invokevirtual 240, 3) := by decide +kernel
theorem dX5_sum_27 : decode cX5_sum 27 = .ok (.ifCond .eq 46, 3) := by decide +kernel
theorem dX5_sum_30 : decode cX5_sum 30 = .ok (.aload_n 0, 1) := by decide +kernel
theorem dX5_sum_31 : decode cX5_sum 31 = .ok (.bipush 45, 2) := by decide +kernel
theorem dX5_sum_33 : decode cX5_sum 33 = .ok (.invokevirtual 240, 3) := by decide +kernel
theorem dX5_sum_36 : decode cX5_sum 36 = .ok (.istore_n 2, 1) := by decide +kernel
theorem dX5_sum_37 : decode cX5_sum 37 = .ok (.aload_n 0, 1) := by decide +kernel
theorem dX5_sum_38 : decode cX5_sum 38 = .ok (.dup, 1) := by decide +kernel
theorem dX5_sum_39 : decode cX5_sum 39 = .ok (.getfield 219, 3) := by decide +kernel
theorem dX5_sum_42 : decode cX5_sum 42 = .ok (.iconst 1, 1) := by decide +kernel
theorem dX5_sum_43 : decode cX5_sum 43 = .ok (.iadd, 1) := by decide +kernel
theorem dX5_sum_44 : decode cX5_sum 44 = .ok (.putfield 219, 3) := by decide +kernel
theorem dX5_sum_47 : decode cX5_sum 47 = .ok (.aload_n 0, 1) := by decide +kernel
theorem dX5_sum_48 : decode cX5_sum 48 = .ok (.iload_n 1, 1) := by decide +kernel
theorem dX5_sum_49 : decode cX5_sum 49 = .ok (.iconst 1, 1) := by decide +kernel
theorem dX5_sum_50 : decode cX5_sum 50 = .ok (.iadd, 1) := by decide +kernel
theorem dX5_sum_51 : decode cX5_sum 51 = .ok (.invokevirtual 249, 3) := by decide +kernel
theorem dX5_sum_54 : decode cX5_sum 54 = .ok (.aload_n 0, 1) := by decide +kernel
theorem dX5_sum_55 : decode cX5_sum 55 = .ok (.getfield 150, 3) := by decide +kernel
theorem dX5_sum_58 : decode cX5_sum 58 = .ok (.ifCond .ne 12, 3) := by decide +kernel
theorem dX5_sum_61 : decode cX5_sum 61 = .ok (.aload_n 0, 1) := by decide +kernel
theorem dX5_sum_62 : decode cX5_sum 62 = .ok (.iload_n 1, 1) := by decide +kernel
theorem dX5_sum_63 : decode cX5_sum 63 = .ok (.iload_n 1, 1) := by decide +kernel
theorem dX5_sum_64 : decode cX5_sum 64 = .ok (.iconst 1, 1) := by decide +kernel
theorem dX5_sum_65 : decode cX5_sum 65 = .ok (.iadd, 1) := by decide +kernel
theorem dX5_sum_66 : decode cX5_sum 66 = .ok (.iload_n 2, 1) := by decide +kernel
theorem dX5_sum_67 : decode cX5_sum 67 = .ok (.invokevirtual 196, 3) := by decide +kernel
theorem dX5_sum_70 : decode cX5_sum 70 = .ok (.goto (-65), 3) := by decide +kernel
theorem dX5_sum_73 : decode cX5_sum 73 = .ok (.return_, 1) := by decide +kernel
section
variable {p : Program} {l : Launch} {e : Env} {s : State} {m : MethodId} {args : Array Value} {below : List Frame} {meth : Method} {c : Code} {Q : State → Prop} {G : GG} {A : Nat → Prop} {q : Nat → Nat} {fr : va_W}
def f_X5_sum_L5 (RS : Int32 → Int32 → (Nat → Int32) → (Nat → Int32) → (Nat → Int32) → (Nat → Int32) → Int32 → (Nat → Int32) → (Nat → Int32) → Int32 → Int32 → (Nat → Int64) → (Nat → Int64) → (Nat → Int32) → Int32 → Int32 → Int32 → Int32 → Option ((Nat → Int32) × (Nat → Int32) × Int32 × (Nat → Int32) × (Nat → Int32) × Int32 × Int32 × (Nat → Int64) × (Nat → Int64) × Int32 × Int32)) (yp : Int32) (ye : Int32) (bPo : Nat → Int32) (bTb : Nat → Int32) (bTp : Nat → Int32) (yln : Int32) (v1 : Int32) : Nat → (Nat → Int32) → (Nat → Int32) → Int32 → (Nat → Int32) → (Nat → Int32) → Int32 → Int32 → (Nat → Int64) → (Nat → Int64) → Int32 → Int32 → Option ((Nat → Int32) × (Nat → Int32) × Int32 × (Nat → Int32) × (Nat → Int32) × Int32 × Int32 × (Nat → Int64) × (Nat → Int64) × Int32 × Int32)
  | 0, _, _, _, _, _, _, _, _, _, _, _ => none
  | fu + 1, bOs, bOn, yop, bSo, bNu, ytr, yiw, wMa, wPr, ypl, yfa =>
    if yiw = 0 then
    (f_X5_isNext bTp yln ypl 43).bind fun z2 =>
    if z2 = 0 then
    (f_X5_isNext bTp yln ypl 45).bind fun z8 =>
    if z8 = 0 then
    some (bOs, bOn, yop, bSo, bNu, ytr, yiw, wMa, wPr, ypl, yfa)
    else
    (f_X5_isNext bTp yln ypl 45).bind fun z10 =>
    (f_X5_productTold RS yp ye bPo bTb bOs bOn yop bSo bNu ytr yiw wMa wPr bTp yln (ypl + 1) yfa (v1 + 1)).bind fun z11 =>
    if z11.2.2.2.2.2.2.1 = 0 then
    (f_X5_adds ye z11.1 z11.2.1 z11.2.2.1 z11.2.2.2.1 z11.2.2.2.2.1 z11.2.2.2.2.2.1 z11.2.2.2.2.2.2.1 z11.2.2.2.2.2.2.2.1 v1 (v1 + 1) z10).bind fun z13 =>
    f_X5_sum_L5 RS yp ye bPo bTb bTp yln v1 fu z11.1 z11.2.1 z11.2.2.1 z13.1 z13.2.1 z13.2.2.1 z13.2.2.2.1 z13.2.2.2.2 z11.2.2.2.2.2.2.2.2.1 z11.2.2.2.2.2.2.2.2.2.1 z11.2.2.2.2.2.2.2.2.2.2
    else
    f_X5_sum_L5 RS yp ye bPo bTb bTp yln v1 fu z11.1 z11.2.1 z11.2.2.1 z11.2.2.2.1 z11.2.2.2.2.1 z11.2.2.2.2.2.1 z11.2.2.2.2.2.2.1 z11.2.2.2.2.2.2.2.1 z11.2.2.2.2.2.2.2.2.1 z11.2.2.2.2.2.2.2.2.2.1 z11.2.2.2.2.2.2.2.2.2.2
    else
    (f_X5_isNext bTp yln ypl 45).bind fun z4 =>
    (f_X5_productTold RS yp ye bPo bTb bOs bOn yop bSo bNu ytr yiw wMa wPr bTp yln (ypl + 1) yfa (v1 + 1)).bind fun z5 =>
    if z5.2.2.2.2.2.2.1 = 0 then
    (f_X5_adds ye z5.1 z5.2.1 z5.2.2.1 z5.2.2.2.1 z5.2.2.2.2.1 z5.2.2.2.2.2.1 z5.2.2.2.2.2.2.1 z5.2.2.2.2.2.2.2.1 v1 (v1 + 1) z4).bind fun z7 =>
    f_X5_sum_L5 RS yp ye bPo bTb bTp yln v1 fu z5.1 z5.2.1 z5.2.2.1 z7.1 z7.2.1 z7.2.2.1 z7.2.2.2.1 z7.2.2.2.2 z5.2.2.2.2.2.2.2.2.1 z5.2.2.2.2.2.2.2.2.2.1 z5.2.2.2.2.2.2.2.2.2.2
    else
    f_X5_sum_L5 RS yp ye bPo bTb bTp yln v1 fu z5.1 z5.2.1 z5.2.2.1 z5.2.2.2.1 z5.2.2.2.2.1 z5.2.2.2.2.2.1 z5.2.2.2.2.2.2.1 z5.2.2.2.2.2.2.2.1 z5.2.2.2.2.2.2.2.2.1 z5.2.2.2.2.2.2.2.2.2.1 z5.2.2.2.2.2.2.2.2.2.2
    else
    some (bOs, bOn, yop, bSo, bNu, ytr, yiw, wMa, wPr, ypl, yfa)
set_option maxHeartbeats 4000000 in
set_option maxRecDepth 100000 in
theorem w_X5_sum_L5 {d : Nat} {RS : Int32 → Int32 → (Nat → Int32) → (Nat → Int32) → (Nat → Int32) → (Nat → Int32) → Int32 → (Nat → Int32) → (Nat → Int32) → Int32 → Int32 → (Nat → Int64) → (Nat → Int64) → (Nat → Int32) → Int32 → Int32 → Int32 → Int32 → Option ((Nat → Int32) × (Nat → Int32) × Int32 × (Nat → Int32) × (Nat → Int32) × Int32 × Int32 × (Nat → Int64) × (Nat → Int64) × Int32 × Int32)} {yp : Int32} {ye : Int32} {yg : Int32} {bPo : Nat → Int32} {bTb : Nat → Int32} {wSh : Nat → Int64} {wTe : Nat → Int64} {wNx : Nat → Int64} {bTp : Nat → Int32} {yln : Int32} {wLi : Nat → Int64} {bSi : Nat → Int32} {yhp : Int32} {yhe : Int32} {yhg : Int32} {wHs : Nat → Int64} {yhi : Int32} {v1 : Int32}  (F : Fx p s m args meth c cX5_sum 3 RX5 none) (hA : ∀ q, s.heap.size ≤ q → A q) (hRS : ∀ (fr : va_W) (yp : Int32) (ye : Int32) (yg : Int32) (bPo : Nat → Int32) (bTb : Nat → Int32) (wSh : Nat → Int64) (wTe : Nat → Int64) (wNx : Nat → Int64) (bOs : Nat → Int32) (bOn : Nat → Int32) (yop : Int32) (bSo : Nat → Int32) (bNu : Nat → Int32) (ytr : Int32) (yiw : Int32) (wMa : Nat → Int64) (wPr : Nat → Int64) (bTp : Nat → Int32) (yln : Int32) (ypl : Int32) (yfa : Int32) (wLi : Nat → Int64) (bSi : Nat → Int32) (yhp : Int32) (yhe : Int32) (yhg : Int32) (wHs : Nat → Int64) (yhi : Int32) (v1 : Int32) (z : (Nat → Int32) × (Nat → Int32) × Int32 × (Nat → Int32) × (Nat → Int32) × Int32 × Int32 × (Nat → Int64) × (Nat → Int64) × Int32 × Int32), RS yp ye bPo bTb bOs bOn yop bSo bNu ytr yiw wMa wPr bTp yln ypl yfa v1 = some z → Ct l G yX5_sum cX5_sum 3 none (20 + 3 * d) (600 + 66 * d) [.ref (q 0), .int v1] (mW G q yp ye yg bPo bTb wSh wTe wNx bOs bOn yop bSo bNu ytr yiw wMa wPr bTp yln ypl yfa wLi bSi yhp yhe yhg wHs yhi ++ fr) (none) (mW G q yp ye yg bPo bTb wSh wTe wNx z.1 z.2.1 z.2.2.1 z.2.2.2.1 z.2.2.2.2.1 z.2.2.2.2.2.1 z.2.2.2.2.2.2.1 z.2.2.2.2.2.2.2.1 z.2.2.2.2.2.2.2.2.1 bTp yln z.2.2.2.2.2.2.2.2.2.1 z.2.2.2.2.2.2.2.2.2.2 wLi bSi yhp yhe yhg wHs yhi ++ fr))  : ∀ (fu : Nat) (bOs : Nat → Int32) (bOn : Nat → Int32) (yop : Int32) (bSo : Nat → Int32) (bNu : Nat → Int32) (ytr : Int32) (yiw : Int32) (wMa : Nat → Int64) (wPr : Nat → Int64) (ypl : Int32) (yfa : Int32) (z : (Nat → Int32) × (Nat → Int32) × Int32 × (Nat → Int32) × (Nat → Int32) × Int32 × Int32 × (Nat → Int64) × (Nat → Int64) × Int32 × Int32), f_X5_sum_L5 RS yp ye bPo bTb bTp yln v1 fu bOs bOn yop bSo bNu ytr yiw wMa wPr ypl yfa = some z → Ends p l e (rmOf (20 + 3 * d + 3) (600 + 66 * d + 66)) s m args below meth c Q cX5_sum G A none (none) (mW G q yp ye yg bPo bTb wSh wTe wNx z.1 z.2.1 z.2.2.1 z.2.2.2.1 z.2.2.2.2.1 z.2.2.2.2.2.1 z.2.2.2.2.2.2.1 z.2.2.2.2.2.2.2.1 z.2.2.2.2.2.2.2.2.1 bTp yln z.2.2.2.2.2.2.2.2.2.1 z.2.2.2.2.2.2.2.2.2.2 wLi bSi yhp yhe yhg wHs yhi ++ fr) → ∀ (H : Heap) (locs : List Loc) (ls : Array Slot), Wd G s A (mW G q yp ye yg bPo bTb wSh wTe wNx bOs bOn yop bSo bNu ytr yiw wMa wPr bTp yln ypl yfa wLi bSi yhp yhe yhg wHs yhi ++ fr) H locs → lv_has ls 3 [(0, .ref (q 0)), (1, .int v1)] → W p l e (rmOf (20 + 3 * d + 3) (600 + 66 * d + 66)) s m args below meth c H locs 0 0 Q (F0 m 5 ls []) := by
  have hx := F.x
  have hb := F.b
  intro fu
  induction fu with
  | zero =>
    intro bOs bOn yop bSo bNu ytr yiw wMa wPr ypl yfa z h
    cases (h : none = some z)
  | succ fu ih =>
    intro bOs bOn yop bSo bNu ytr yiw wMa wPr ypl yfa z h hE H locs ls hw hl
    rw [f_X5_sum_L5] at h
    refine lv_aload_n hx hb dX5_sum_5 rfl (lv_at hl 0 rfl) ?_
    refine gf_5_150 F hw dX5_sum_6 ?_
    refine lv_if_ne (tgt := 73) hx hb dX5_sum_9 (by decide) (fun c1 => ?_) (fun c1 => ?_)
    · replace h := stF c1 h
      obtain rfl := Option.some.inj h
      exact hE H locs _ ls hw dX5_sum_73
    · replace h := stT c1 h
      refine lv_aload_n hx hb dX5_sum_12 rfl (lv_at hl 0 rfl) ?_
      refine lv_bipush (v := 43) hx hb dX5_sum_13 (by decide) ?_
      obtain ⟨z2, hz2, h⟩ := stB h
      refine ctV (av := [.int 43]) (st0 := ([] : List Value)) (st1 := ([.int z2] : List Value)) F hw hA (k_X5_isNext hz2) kl_5_240 kd_X5_isNext rfl ⟨by omega, by omega⟩ 0 rfl rfl hl.1 rfl (Nat.le_of_ble_eq_true rfl) dX5_sum_15 rfl (fun H locs hw => ?_)
      refine lv_if_ne (tgt := 30) hx hb dX5_sum_18 (by decide) (fun c3 => ?_) (fun c3 => ?_)
      · replace h := stF c3 h
        refine lv_aload_n hx hb dX5_sum_30 rfl (lv_at hl 0 rfl) ?_
        refine lv_bipush (v := 45) hx hb dX5_sum_31 (by decide) ?_
        obtain ⟨z4, hz4, h⟩ := stB h
        refine ctV (av := [.int 45]) (st0 := ([] : List Value)) (st1 := ([.int z4] : List Value)) F hw hA (k_X5_isNext hz4) kl_5_240 kd_X5_isNext rfl ⟨by omega, by omega⟩ 0 rfl rfl hl.1 rfl (Nat.le_of_ble_eq_true rfl) dX5_sum_33 rfl (fun H locs hw => ?_)
        refine lv_istore_n (lv' := [(2, .int z4), (0, .ref (q 0)), (1, .int v1)]) hx hb dX5_sum_36 rfl hl (by decide) rfl (fun ls hl => ?_)
        refine lv_aload_n hx hb dX5_sum_37 rfl (lv_at hl 1 rfl) ?_
        refine lv_dup hx hb dX5_sum_38 rfl ?_
        refine gf_5_219 F hw dX5_sum_39 ?_
        refine lv_iconst (v := 1) hx hb dX5_sum_42 (by decide) ?_
        refine lv_iadd hx hb dX5_sum_43 ?_
        refine pf_5_219 F hw dX5_sum_44 (fun H locs hw => ?_)
        refine lv_aload_n hx hb dX5_sum_47 rfl (lv_at hl 1 rfl) ?_
        refine lv_iload_n hx hb dX5_sum_48 rfl (lv_at hl 2 rfl) ?_
        refine lv_iconst (v := 1) hx hb dX5_sum_49 (by decide) ?_
        refine lv_iadd hx hb dX5_sum_50 ?_
        obtain ⟨z5, hz5, h⟩ := stB h
        refine ctV (av := [.int (v1 + 1)]) (st0 := ([] : List Value)) (st1 := ([] : List Value)) F hw hA (k_X5_productTold hRS hz5) kl_5_249 kd_X5_productTold rfl ⟨by omega, by omega⟩ 0 rfl rfl hl.1 rfl (Nat.le_of_ble_eq_true rfl) dX5_sum_51 rfl (fun H locs hw => ?_)
        refine lv_aload_n hx hb dX5_sum_54 rfl (lv_at hl 1 rfl) ?_
        refine gf_5_150 F hw dX5_sum_55 ?_
        refine lv_if_ne (tgt := 70) hx hb dX5_sum_58 (by decide) (fun c6 => ?_) (fun c6 => ?_)
        · replace h := stF c6 h
          refine lv_goto (tgt := 5) hx hb dX5_sum_70 (by decide) ?_
          exact ih _ _ _ _ _ _ _ _ _ _ _ z h hE H locs ls hw (lv_sub hl [1, 2] rfl)
        · replace h := stT c6 h
          refine lv_aload_n hx hb dX5_sum_61 rfl (lv_at hl 1 rfl) ?_
          refine lv_iload_n hx hb dX5_sum_62 rfl (lv_at hl 2 rfl) ?_
          refine lv_iload_n hx hb dX5_sum_63 rfl (lv_at hl 2 rfl) ?_
          refine lv_iconst (v := 1) hx hb dX5_sum_64 (by decide) ?_
          refine lv_iadd hx hb dX5_sum_65 ?_
          refine lv_iload_n hx hb dX5_sum_66 rfl (lv_at hl 0 rfl) ?_
          obtain ⟨z7, hz7, h⟩ := stB h
          refine ctV (av := [.int v1, .int (v1 + 1), .int z4]) (st0 := ([] : List Value)) (st1 := ([] : List Value)) F hw hA (k_X5_adds hz7) kl_5_196 kd_X5_adds rfl ⟨by omega, by omega⟩ 0 rfl rfl hl.1 rfl (Nat.le_of_ble_eq_true rfl) dX5_sum_67 rfl (fun H locs hw => ?_)
          refine lv_goto (tgt := 5) hx hb dX5_sum_70 (by decide) ?_
          exact ih _ _ _ _ _ _ _ _ _ _ _ z h hE H locs ls hw (lv_sub hl [1, 2] rfl)
      · replace h := stT c3 h
        refine lv_aload_n hx hb dX5_sum_21 rfl (lv_at hl 0 rfl) ?_
        refine lv_bipush (v := 45) hx hb dX5_sum_22 (by decide) ?_
        obtain ⟨z8, hz8, h⟩ := stB h
        refine ctV (av := [.int 45]) (st0 := ([] : List Value)) (st1 := ([.int z8] : List Value)) F hw hA (k_X5_isNext hz8) kl_5_240 kd_X5_isNext rfl ⟨by omega, by omega⟩ 0 rfl rfl hl.1 rfl (Nat.le_of_ble_eq_true rfl) dX5_sum_24 rfl (fun H locs hw => ?_)
        refine lv_if_eq (tgt := 73) hx hb dX5_sum_27 (by decide) (fun c9 => ?_) (fun c9 => ?_)
        · replace h := stT c9 h
          obtain rfl := Option.some.inj h
          exact hE H locs _ ls hw dX5_sum_73
        · replace h := stF c9 h
          refine lv_aload_n hx hb dX5_sum_30 rfl (lv_at hl 0 rfl) ?_
          refine lv_bipush (v := 45) hx hb dX5_sum_31 (by decide) ?_
          obtain ⟨z10, hz10, h⟩ := stB h
          refine ctV (av := [.int 45]) (st0 := ([] : List Value)) (st1 := ([.int z10] : List Value)) F hw hA (k_X5_isNext hz10) kl_5_240 kd_X5_isNext rfl ⟨by omega, by omega⟩ 0 rfl rfl hl.1 rfl (Nat.le_of_ble_eq_true rfl) dX5_sum_33 rfl (fun H locs hw => ?_)
          refine lv_istore_n (lv' := [(2, .int z10), (0, .ref (q 0)), (1, .int v1)]) hx hb dX5_sum_36 rfl hl (by decide) rfl (fun ls hl => ?_)
          refine lv_aload_n hx hb dX5_sum_37 rfl (lv_at hl 1 rfl) ?_
          refine lv_dup hx hb dX5_sum_38 rfl ?_
          refine gf_5_219 F hw dX5_sum_39 ?_
          refine lv_iconst (v := 1) hx hb dX5_sum_42 (by decide) ?_
          refine lv_iadd hx hb dX5_sum_43 ?_
          refine pf_5_219 F hw dX5_sum_44 (fun H locs hw => ?_)
          refine lv_aload_n hx hb dX5_sum_47 rfl (lv_at hl 1 rfl) ?_
          refine lv_iload_n hx hb dX5_sum_48 rfl (lv_at hl 2 rfl) ?_
          refine lv_iconst (v := 1) hx hb dX5_sum_49 (by decide) ?_
          refine lv_iadd hx hb dX5_sum_50 ?_
          obtain ⟨z11, hz11, h⟩ := stB h
          refine ctV (av := [.int (v1 + 1)]) (st0 := ([] : List Value)) (st1 := ([] : List Value)) F hw hA (k_X5_productTold hRS hz11) kl_5_249 kd_X5_productTold rfl ⟨by omega, by omega⟩ 0 rfl rfl hl.1 rfl (Nat.le_of_ble_eq_true rfl) dX5_sum_51 rfl (fun H locs hw => ?_)
          refine lv_aload_n hx hb dX5_sum_54 rfl (lv_at hl 1 rfl) ?_
          refine gf_5_150 F hw dX5_sum_55 ?_
          refine lv_if_ne (tgt := 70) hx hb dX5_sum_58 (by decide) (fun c12 => ?_) (fun c12 => ?_)
          · replace h := stF c12 h
            refine lv_goto (tgt := 5) hx hb dX5_sum_70 (by decide) ?_
            exact ih _ _ _ _ _ _ _ _ _ _ _ z h hE H locs ls hw (lv_sub hl [1, 2] rfl)
          · replace h := stT c12 h
            refine lv_aload_n hx hb dX5_sum_61 rfl (lv_at hl 1 rfl) ?_
            refine lv_iload_n hx hb dX5_sum_62 rfl (lv_at hl 2 rfl) ?_
            refine lv_iload_n hx hb dX5_sum_63 rfl (lv_at hl 2 rfl) ?_
            refine lv_iconst (v := 1) hx hb dX5_sum_64 (by decide) ?_
            refine lv_iadd hx hb dX5_sum_65 ?_
            refine lv_iload_n hx hb dX5_sum_66 rfl (lv_at hl 0 rfl) ?_
            obtain ⟨z13, hz13, h⟩ := stB h
            refine ctV (av := [.int v1, .int (v1 + 1), .int z10]) (st0 := ([] : List Value)) (st1 := ([] : List Value)) F hw hA (k_X5_adds hz13) kl_5_196 kd_X5_adds rfl ⟨by omega, by omega⟩ 0 rfl rfl hl.1 rfl (Nat.le_of_ble_eq_true rfl) dX5_sum_67 rfl (fun H locs hw => ?_)
            refine lv_goto (tgt := 5) hx hb dX5_sum_70 (by decide) ?_
            exact ih _ _ _ _ _ _ _ _ _ _ _ z h hE H locs ls hw (lv_sub hl [1, 2] rfl)
def f_X5_sumB (RS : Int32 → Int32 → (Nat → Int32) → (Nat → Int32) → (Nat → Int32) → (Nat → Int32) → Int32 → (Nat → Int32) → (Nat → Int32) → Int32 → Int32 → (Nat → Int64) → (Nat → Int64) → (Nat → Int32) → Int32 → Int32 → Int32 → Int32 → Option ((Nat → Int32) × (Nat → Int32) × Int32 × (Nat → Int32) × (Nat → Int32) × Int32 × Int32 × (Nat → Int64) × (Nat → Int64) × Int32 × Int32)) (yp : Int32) (ye : Int32) (bPo : Nat → Int32) (bTb : Nat → Int32) (bOs : Nat → Int32) (bOn : Nat → Int32) (yop : Int32) (bSo : Nat → Int32) (bNu : Nat → Int32) (ytr : Int32) (yiw : Int32) (wMa : Nat → Int64) (wPr : Nat → Int64) (bTp : Nat → Int32) (yln : Int32) (ypl : Int32) (yfa : Int32) (v1 : Int32) : Option ((Nat → Int32) × (Nat → Int32) × Int32 × (Nat → Int32) × (Nat → Int32) × Int32 × Int32 × (Nat → Int64) × (Nat → Int64) × Int32 × Int32) :=
  (f_X5_productTold RS yp ye bPo bTb bOs bOn yop bSo bNu ytr yiw wMa wPr bTp yln ypl yfa v1).bind fun z1 =>
  f_X5_sum_L5 RS yp ye bPo bTb bTp yln v1 FU z1.1 z1.2.1 z1.2.2.1 z1.2.2.2.1 z1.2.2.2.2.1 z1.2.2.2.2.2.1 z1.2.2.2.2.2.2.1 z1.2.2.2.2.2.2.2.1 z1.2.2.2.2.2.2.2.2.1 z1.2.2.2.2.2.2.2.2.2.1 z1.2.2.2.2.2.2.2.2.2.2
set_option maxHeartbeats 4000000 in
set_option maxRecDepth 100000 in
theorem k_X5_sumB {l : Launch} {G : GG} {q : Nat → Nat} {fr : va_W} {d : Nat} {RS : Int32 → Int32 → (Nat → Int32) → (Nat → Int32) → (Nat → Int32) → (Nat → Int32) → Int32 → (Nat → Int32) → (Nat → Int32) → Int32 → Int32 → (Nat → Int64) → (Nat → Int64) → (Nat → Int32) → Int32 → Int32 → Int32 → Int32 → Option ((Nat → Int32) × (Nat → Int32) × Int32 × (Nat → Int32) × (Nat → Int32) × Int32 × Int32 × (Nat → Int64) × (Nat → Int64) × Int32 × Int32)} {yp : Int32} {ye : Int32} {yg : Int32} {bPo : Nat → Int32} {bTb : Nat → Int32} {wSh : Nat → Int64} {wTe : Nat → Int64} {wNx : Nat → Int64} {bOs : Nat → Int32} {bOn : Nat → Int32} {yop : Int32} {bSo : Nat → Int32} {bNu : Nat → Int32} {ytr : Int32} {yiw : Int32} {wMa : Nat → Int64} {wPr : Nat → Int64} {bTp : Nat → Int32} {yln : Int32} {ypl : Int32} {yfa : Int32} {wLi : Nat → Int64} {bSi : Nat → Int32} {yhp : Int32} {yhe : Int32} {yhg : Int32} {wHs : Nat → Int64} {yhi : Int32} {v1 : Int32} {z : (Nat → Int32) × (Nat → Int32) × Int32 × (Nat → Int32) × (Nat → Int32) × Int32 × Int32 × (Nat → Int64) × (Nat → Int64) × Int32 × Int32} (hRS : ∀ (fr : va_W) (yp : Int32) (ye : Int32) (yg : Int32) (bPo : Nat → Int32) (bTb : Nat → Int32) (wSh : Nat → Int64) (wTe : Nat → Int64) (wNx : Nat → Int64) (bOs : Nat → Int32) (bOn : Nat → Int32) (yop : Int32) (bSo : Nat → Int32) (bNu : Nat → Int32) (ytr : Int32) (yiw : Int32) (wMa : Nat → Int64) (wPr : Nat → Int64) (bTp : Nat → Int32) (yln : Int32) (ypl : Int32) (yfa : Int32) (wLi : Nat → Int64) (bSi : Nat → Int32) (yhp : Int32) (yhe : Int32) (yhg : Int32) (wHs : Nat → Int64) (yhi : Int32) (v1 : Int32) (z : (Nat → Int32) × (Nat → Int32) × Int32 × (Nat → Int32) × (Nat → Int32) × Int32 × Int32 × (Nat → Int64) × (Nat → Int64) × Int32 × Int32), RS yp ye bPo bTb bOs bOn yop bSo bNu ytr yiw wMa wPr bTp yln ypl yfa v1 = some z → Ct l G yX5_sum cX5_sum 3 none (20 + 3 * d) (600 + 66 * d) [.ref (q 0), .int v1] (mW G q yp ye yg bPo bTb wSh wTe wNx bOs bOn yop bSo bNu ytr yiw wMa wPr bTp yln ypl yfa wLi bSi yhp yhe yhg wHs yhi ++ fr) (none) (mW G q yp ye yg bPo bTb wSh wTe wNx z.1 z.2.1 z.2.2.1 z.2.2.2.1 z.2.2.2.2.1 z.2.2.2.2.2.1 z.2.2.2.2.2.2.1 z.2.2.2.2.2.2.2.1 z.2.2.2.2.2.2.2.2.1 bTp yln z.2.2.2.2.2.2.2.2.2.1 z.2.2.2.2.2.2.2.2.2.2 wLi bSi yhp yhe yhg wHs yhi ++ fr)) (h : f_X5_sumB RS yp ye bPo bTb bOs bOn yop bSo bNu ytr yiw wMa wPr bTp yln ypl yfa v1 = some z) : Ct l G yX5_sum cX5_sum 3 none (20 + 3 * d + 3) (600 + 66 * d + 66) [.ref (q 0), .int v1] (mW G q yp ye yg bPo bTb wSh wTe wNx bOs bOn yop bSo bNu ytr yiw wMa wPr bTp yln ypl yfa wLi bSi yhp yhe yhg wHs yhi ++ fr) (none) (mW G q yp ye yg bPo bTb wSh wTe wNx z.1 z.2.1 z.2.2.1 z.2.2.2.1 z.2.2.2.2.1 z.2.2.2.2.2.1 z.2.2.2.2.2.2.1 z.2.2.2.2.2.2.2.1 z.2.2.2.2.2.2.2.2.1 bTp yln z.2.2.2.2.2.2.2.2.2.1 z.2.2.2.2.2.2.2.2.2.2 wLi bSi yhp yhe yhg wHs yhi ++ fr) := by
  refine Ct.of (by decide +kernel) (Nat.le_of_ble_eq_true rfl) trivial ?_
  intro p e s m args below meth c Q A ls F hw hA hE hl
  have hx := F.x
  have hb := F.b
  unfold f_X5_sumB at h
  obtain ⟨H, hH⟩ : ∃ H, H = s.heap := ⟨_, rfl⟩
  obtain ⟨locs, hlo⟩ : ∃ locs : List Loc, locs = [] := ⟨_, rfl⟩
  rw [← hH, ← hlo] at hw ⊢
  have hl : lv_has ls 3 [(0, .ref (q 0)), (1, .int v1)] := hl
  refine lv_aload_n hx hb dX5_sum_0 rfl (lv_at hl 0 rfl) ?_
  refine lv_iload_n hx hb dX5_sum_1 rfl (lv_at hl 1 rfl) ?_
  obtain ⟨z1, hz1, h⟩ := stB h
  refine ctV (av := [.int v1]) (st0 := ([] : List Value)) (st1 := ([] : List Value)) F hw hA (k_X5_productTold hRS hz1) kl_5_249 kd_X5_productTold rfl ⟨by omega, by omega⟩ 0 rfl rfl hl.1 rfl (Nat.le_of_ble_eq_true rfl) dX5_sum_2 rfl (fun H locs hw => ?_)
  exact w_X5_sum_L5 F hA hRS FU _ _ _ _ _ _ _ _ _ _ _ z h hE H locs ls hw (lv_sub hl [0, 1] rfl)
end
def f_X5_sum : Nat → Int32 → Int32 → (Nat → Int32) → (Nat → Int32) → (Nat → Int32) → (Nat → Int32) → Int32 → (Nat → Int32) → (Nat → Int32) → Int32 → Int32 → (Nat → Int64) → (Nat → Int64) → (Nat → Int32) → Int32 → Int32 → Int32 → Int32 → Option ((Nat → Int32) × (Nat → Int32) × Int32 × (Nat → Int32) × (Nat → Int32) × Int32 × Int32 × (Nat → Int64) × (Nat → Int64) × Int32 × Int32)
  | 0, _, _, _, _, _, _, _, _, _, _, _, _, _, _, _, _, _, _ => none
  | d + 1, yp, ye, bPo, bTb, bOs, bOn, yop, bSo, bNu, ytr, yiw, wMa, wPr, bTp, yln, ypl, yfa, v1 => f_X5_sumB (f_X5_sum d) yp ye bPo bTb bOs bOn yop bSo bNu ytr yiw wMa wPr bTp yln ypl yfa v1
theorem k_X5_sum {l : Launch} {G : GG} {q : Nat → Nat} : ∀ (d : Nat) (fr : va_W) (yp : Int32) (ye : Int32) (yg : Int32) (bPo : Nat → Int32) (bTb : Nat → Int32) (wSh : Nat → Int64) (wTe : Nat → Int64) (wNx : Nat → Int64) (bOs : Nat → Int32) (bOn : Nat → Int32) (yop : Int32) (bSo : Nat → Int32) (bNu : Nat → Int32) (ytr : Int32) (yiw : Int32) (wMa : Nat → Int64) (wPr : Nat → Int64) (bTp : Nat → Int32) (yln : Int32) (ypl : Int32) (yfa : Int32) (wLi : Nat → Int64) (bSi : Nat → Int32) (yhp : Int32) (yhe : Int32) (yhg : Int32) (wHs : Nat → Int64) (yhi : Int32) (v1 : Int32) (z : (Nat → Int32) × (Nat → Int32) × Int32 × (Nat → Int32) × (Nat → Int32) × Int32 × Int32 × (Nat → Int64) × (Nat → Int64) × Int32 × Int32), f_X5_sum d yp ye bPo bTb bOs bOn yop bSo bNu ytr yiw wMa wPr bTp yln ypl yfa v1 = some z → Ct l G yX5_sum cX5_sum 3 none (20 + 3 * d) (600 + 66 * d) [.ref (q 0), .int v1] (mW G q yp ye yg bPo bTb wSh wTe wNx bOs bOn yop bSo bNu ytr yiw wMa wPr bTp yln ypl yfa wLi bSi yhp yhe yhg wHs yhi ++ fr) (none) (mW G q yp ye yg bPo bTb wSh wTe wNx z.1 z.2.1 z.2.2.1 z.2.2.2.1 z.2.2.2.2.1 z.2.2.2.2.2.1 z.2.2.2.2.2.2.1 z.2.2.2.2.2.2.2.1 z.2.2.2.2.2.2.2.2.1 bTp yln z.2.2.2.2.2.2.2.2.2.1 z.2.2.2.2.2.2.2.2.2.2 wLi bSi yhp yhe yhg wHs yhi ++ fr) := by
  intro d
  induction d with
  | zero =>
    intro fr yp ye yg bPo bTb wSh wTe wNx bOs bOn yop bSo bNu ytr yiw wMa wPr bTp yln ypl yfa wLi bSi yhp yhe yhg wHs yhi v1 z h
    cases (h : none = some z)
  | succ d ih =>
    intro fr yp ye yg bPo bTb wSh wTe wNx bOs bOn yop bSo bNu ytr yiw wMa wPr bTp yln ypl yfa wLi bSi yhp yhe yhg wHs yhi v1 z h
    rw [show 20 + 3 * (d + 1) = 20 + 3 * d + 3 from by omega, show 600 + 66 * (d + 1) = 600 + 66 * d + 66 from by omega]
    exact k_X5_sumB ih h
theorem dX5_read_0 : decode cX5_read 0 = .ok (.iload_n 1, 1) := by decide +kernel
theorem dX5_read_1 : decode cX5_read 1 = .ok (.invokestatic 174, 3) := by decide +kernel
theorem dX5_read_4 : decode cX5_read 4 = .ok (.ifCond .ne 5, 3) := by decide +kernel
theorem dX5_read_7 : decode cX5_read 7 = .ok (.iconst (-1), 1) := by decide +kernel
theorem dX5_read_8 : decode cX5_read 8 = .ok (.ireturn, 1) := by decide +kernel
theorem dX5_read_9 : decode cX5_read 9 = .ok (.aload_n 0, 1) := by decide +kernel
theorem dX5_read_10 : decode cX5_read 10 = .ok (.invokevirtual 177, 3) := by decide +kernel
theorem dX5_read_13 : decode cX5_read 13 = .ok (.aload_n 0, 1) := by decide +kernel
theorem dX5_read_14 : decode cX5_read 14 = .ok (.iconst 0, 1) := by decide +kernel
theorem dX5_read_15 : decode cX5_read 15 = .ok (.putfield 219, 3) := by decide +kernel
theorem dX5_read_18 : decode cX5_read 18 = .ok (.aload_n 0, 1) := by decide +kernel
theorem dX5_read_19 : decode cX5_read 19 = .ok (.iconst (-1), 1) := by decide +kernel
theorem dX5_read_20 : decode cX5_read 20 = .ok (.putfield 226, 3) := by decide +kernel
theorem dX5_read_23 : decode cX5_read 23 = .ok (.aload_n 0, 1) := by decide +kernel
theorem dX5_read_24 : decode cX5_read 24 = .ok (.iconst 0, 1) := by decide +kernel
theorem dX5_read_25 : decode cX5_read 25 = .ok (.invokevirtual 243, 3) := by decide +kernel
theorem dX5_read_28 : decode cX5_read 28 = .ok (.aload_n 0, 1) := by decide +kernel
theorem dX5_read_29 : decode cX5_read 29 = .ok (.getfield 150, 3) := by decide +kernel
theorem dX5_read_32 : decode cX5_read 32 = .ok (.ifCond .ne 22, 3) := by decide +kernel
theorem dX5_read_35 : decode cX5_read 35 = .ok (.aload_n 0, 1) := by decide +kernel
theorem dX5_read_36 : decode cX5_read 36 = .ok (.getfield 219, 3) := by decide +kernel
theorem dX5_read_39 : decode cX5_read 39 = .ok (.aload_n 0, 1) := by decide +kernel
theorem dX5_read_40 : decode cX5_read 40 = .ok (.getfield 216, 3) := by decide +kernel
theorem dX5_read_43 : decode cX5_read 43 = .ok (.if_icmp .ge 11, 3) := by decide +kernel
theorem dX5_read_46 : decode cX5_read 46 = .ok (.aload_n 0, 1) := by decide +kernel
theorem dX5_read_47 : decode cX5_read 47 = .ok (.aload_n 0, 1) := by decide +kernel
theorem dX5_read_48 : decode cX5_read 48 = .ok (.getfield 219, 3) := by decide +kernel
theorem dX5_read_51 : decode cX5_read 51 = .ok (.invokevirtual 233, 3) := by decide +kernel
theorem dX5_read_54 : decode cX5_read 54 = .ok (.aload_n 0, 1) := by decide +kernel
theorem dX5_read_55 : decode cX5_read 55 = .ok (.iconst 0, 1) := by decide +kernel
theorem dX5_read_56 : decode cX5_read 56 = .ok (.putfield 216, 3) := by decide +kernel
theorem dX5_read_59 : decode cX5_read 59 = .ok (.aload_n 0, 1) := by decide +kernel
theorem dX5_read_60 : decode cX5_read 60 = .ok (.getfield 226, 3) := by decide +kernel
theorem dX5_read_63 : decode cX5_read 63 = .ok (.ifCond .lt 13, 3) := by decide +kernel
theorem dX5_read_66 : decode cX5_read 66 = .ok (.bipush (-100), 2) := by decide +kernel
theorem dX5_read_68 : decode cX5_read 68 = .ok (.aload_n 0, 1) := by decide +kernel
theorem dX5_read_69 : decode cX5_read 69 = .ok (.getfield 226, 3) := by decide +kernel
theorem dX5_read_72 : decode cX5_read 72 = .ok (.isub, 1) := by decide +kernel
theorem dX5_read_73 : decode cX5_read 73 = .ok (.goto 8, 3) := by decide +kernel
theorem dX5_read_76 : decode cX5_read 76 = .ok (.aload_n 0, 1) := by decide +kernel
theorem dX5_read_77 : decode cX5_read 77 = .ok (.iload_n 1, 1) := by decide +kernel
theorem dX5_read_78 : decode cX5_read 78 = .ok (.invokevirtual 183, 3) := by decide +kernel
theorem dX5_read_81 : decode cX5_read 81 = .ok (.ireturn, 1) := by decide +kernel
section
variable {p : Program} {l : Launch} {e : Env} {s : State} {m : MethodId} {args : Array Value} {below : List Frame} {meth : Method} {c : Code} {Q : State → Prop} {G : GG} {A : Nat → Prop} {q : Nat → Nat} {fr : va_W}
def f_X5_read (yp : Int32) (ye : Int32) (bPo : Nat → Int32) (bTb : Nat → Int32) (wSh : Nat → Int64) (bOs : Nat → Int32) (bOn : Nat → Int32) (yop : Int32) (bSo : Nat → Int32) (bNu : Nat → Int32) (ytr : Int32) (yiw : Int32) (wMa : Nat → Int64) (wPr : Nat → Int64) (bTp : Nat → Int32) (yln : Int32) (ypl : Int32) (yfa : Int32) (v1 : Int32) : Option (Int32 × (Nat → Int64) × (Nat → Int32) × (Nat → Int32) × Int32 × (Nat → Int32) × (Nat → Int32) × Int32 × Int32 × (Nat → Int64) × (Nat → Int64) × Int32 × Int32 × Int32) :=
  (f_X5_isShelf v1).bind fun z1 =>
  if z1 = 0 then
  some ((-1), wSh, bOs, bOn, yop, bSo, bNu, ytr, yiw, wMa, wPr, yln, ypl, yfa)
  else
  (f_X5_begins_ yop yiw).bind fun z3 =>
  (f_X5_sum 7 yp ye bPo bTb bOs bOn z3.1 bSo bNu ytr z3.2 wMa wPr bTp yln 0 (-1) 0).bind fun z4 =>
  if z4.2.2.2.2.2.2.1 = 0 then
  if yln ≤ z4.2.2.2.2.2.2.2.2.2.1 then
  if z4.2.2.2.2.2.2.2.2.2.2 < 0 then
  (f_X5_lays ye wSh z4.2.2.2.2.2.2.1 z4.2.2.2.2.2.2.2.1 v1).bind fun z10 =>
  some (z10.1, z10.2, z4.1, z4.2.1, z4.2.2.1, z4.2.2.2.1, z4.2.2.2.2.1, z4.2.2.2.2.2.1, z4.2.2.2.2.2.2.1, z4.2.2.2.2.2.2.2.1, z4.2.2.2.2.2.2.2.2.1, 0, z4.2.2.2.2.2.2.2.2.2.1, z4.2.2.2.2.2.2.2.2.2.2)
  else
  some (((-100) - z4.2.2.2.2.2.2.2.2.2.2), wSh, z4.1, z4.2.1, z4.2.2.1, z4.2.2.2.1, z4.2.2.2.2.1, z4.2.2.2.2.2.1, z4.2.2.2.2.2.2.1, z4.2.2.2.2.2.2.2.1, z4.2.2.2.2.2.2.2.2.1, 0, z4.2.2.2.2.2.2.2.2.2.1, z4.2.2.2.2.2.2.2.2.2.2)
  else
  (f_X5_faulty z4.1 z4.2.1 z4.2.2.1 z4.2.2.2.1 z4.2.2.2.2.1 z4.2.2.2.2.2.1 z4.2.2.2.2.2.2.1 z4.2.2.2.2.2.2.2.2.2.2 z4.2.2.2.2.2.2.2.2.2.1).bind fun z11 =>
  if z11.2.2.2.2 < 0 then
  (f_X5_lays ye wSh z11.2.2.2.1 z4.2.2.2.2.2.2.2.1 v1).bind fun z13 =>
  some (z13.1, z13.2, z4.1, z4.2.1, z4.2.2.1, z11.1, z11.2.1, z11.2.2.1, z11.2.2.2.1, z4.2.2.2.2.2.2.2.1, z4.2.2.2.2.2.2.2.2.1, 0, z4.2.2.2.2.2.2.2.2.2.1, z11.2.2.2.2)
  else
  some (((-100) - z11.2.2.2.2), wSh, z4.1, z4.2.1, z4.2.2.1, z11.1, z11.2.1, z11.2.2.1, z11.2.2.2.1, z4.2.2.2.2.2.2.2.1, z4.2.2.2.2.2.2.2.2.1, 0, z4.2.2.2.2.2.2.2.2.2.1, z11.2.2.2.2)
  else
  if z4.2.2.2.2.2.2.2.2.2.2 < 0 then
  (f_X5_lays ye wSh z4.2.2.2.2.2.2.1 z4.2.2.2.2.2.2.2.1 v1).bind fun z7 =>
  some (z7.1, z7.2, z4.1, z4.2.1, z4.2.2.1, z4.2.2.2.1, z4.2.2.2.2.1, z4.2.2.2.2.2.1, z4.2.2.2.2.2.2.1, z4.2.2.2.2.2.2.2.1, z4.2.2.2.2.2.2.2.2.1, 0, z4.2.2.2.2.2.2.2.2.2.1, z4.2.2.2.2.2.2.2.2.2.2)
  else
  some (((-100) - z4.2.2.2.2.2.2.2.2.2.2), wSh, z4.1, z4.2.1, z4.2.2.1, z4.2.2.2.1, z4.2.2.2.2.1, z4.2.2.2.2.2.1, z4.2.2.2.2.2.2.1, z4.2.2.2.2.2.2.2.1, z4.2.2.2.2.2.2.2.2.1, 0, z4.2.2.2.2.2.2.2.2.2.1, z4.2.2.2.2.2.2.2.2.2.2)
set_option maxHeartbeats 4000000 in
set_option maxRecDepth 100000 in
theorem k_X5_read {l : Launch} {G : GG} {q : Nat → Nat} {fr : va_W}  {yp : Int32} {ye : Int32} {yg : Int32} {bPo : Nat → Int32} {bTb : Nat → Int32} {wSh : Nat → Int64} {wTe : Nat → Int64} {wNx : Nat → Int64} {bOs : Nat → Int32} {bOn : Nat → Int32} {yop : Int32} {bSo : Nat → Int32} {bNu : Nat → Int32} {ytr : Int32} {yiw : Int32} {wMa : Nat → Int64} {wPr : Nat → Int64} {bTp : Nat → Int32} {yln : Int32} {ypl : Int32} {yfa : Int32} {wLi : Nat → Int64} {bSi : Nat → Int32} {yhp : Int32} {yhe : Int32} {yhg : Int32} {wHs : Nat → Int64} {yhi : Int32} {v1 : Int32} {z : Int32 × (Nat → Int64) × (Nat → Int32) × (Nat → Int32) × Int32 × (Nat → Int32) × (Nat → Int32) × Int32 × Int32 × (Nat → Int64) × (Nat → Int64) × Int32 × Int32 × Int32}  (h : f_X5_read yp ye bPo bTb wSh bOs bOn yop bSo bNu ytr yiw wMa wPr bTp yln ypl yfa v1 = some z) : Ct l G yX5_read cX5_read 2 (some .int) 42 1084 [.ref (q 0), .int v1] (mW G q yp ye yg bPo bTb wSh wTe wNx bOs bOn yop bSo bNu ytr yiw wMa wPr bTp yln ypl yfa wLi bSi yhp yhe yhg wHs yhi ++ fr) (some (.int z.1)) (mW G q yp ye yg bPo bTb z.2.1 wTe wNx z.2.2.1 z.2.2.2.1 z.2.2.2.2.1 z.2.2.2.2.2.1 z.2.2.2.2.2.2.1 z.2.2.2.2.2.2.2.1 z.2.2.2.2.2.2.2.2.1 z.2.2.2.2.2.2.2.2.2.1 z.2.2.2.2.2.2.2.2.2.2.1 bTp z.2.2.2.2.2.2.2.2.2.2.2.1 z.2.2.2.2.2.2.2.2.2.2.2.2.1 z.2.2.2.2.2.2.2.2.2.2.2.2.2 wLi bSi yhp yhe yhg wHs yhi ++ fr) := by
  refine Ct.of (by decide +kernel) (Nat.le_of_ble_eq_true rfl) trivial ?_
  intro p e s m args below meth c Q A ls F hw hA hE hl
  have hx := F.x
  have hb := F.b
  unfold f_X5_read at h
  obtain ⟨H, hH⟩ : ∃ H, H = s.heap := ⟨_, rfl⟩
  obtain ⟨locs, hlo⟩ : ∃ locs : List Loc, locs = [] := ⟨_, rfl⟩
  rw [← hH, ← hlo] at hw ⊢
  have hl : lv_has ls 2 [(0, .ref (q 0)), (1, .int v1)] := hl
  refine lv_iload_n hx hb dX5_read_0 rfl (lv_at hl 1 rfl) ?_
  obtain ⟨z1, hz1, h⟩ := stB h
  refine ctS (av := [.int v1]) (st0 := ([] : List Value)) (st1 := ([.int z1] : List Value)) F hw hA (k_X5_isShelf hz1) kl_5_174 kd_X5_isShelf rfl ⟨by decide, by decide⟩ hl.1 rfl (Nat.le_of_ble_eq_true rfl) dX5_read_1 rfl (fun H locs hw => ?_)
  refine lv_if_ne (tgt := 9) hx hb dX5_read_4 (by decide) (fun c2 => ?_) (fun c2 => ?_)
  · replace h := stF c2 h
    refine lv_aload_n hx hb dX5_read_9 rfl (lv_at hl 0 rfl) ?_
    obtain ⟨z3, hz3, h⟩ := stB h
    refine ctV (av := []) (st0 := ([] : List Value)) (st1 := ([] : List Value)) F hw hA (k_X5_begins_ hz3) kl_5_177 kd_X5_begins_ rfl ⟨by decide, by decide⟩ 0 rfl rfl hl.1 rfl (Nat.le_of_ble_eq_true rfl) dX5_read_10 rfl (fun H locs hw => ?_)
    refine lv_aload_n hx hb dX5_read_13 rfl (lv_at hl 0 rfl) ?_
    refine lv_iconst (v := 0) hx hb dX5_read_14 (by decide) ?_
    refine pf_5_219 F hw dX5_read_15 (fun H locs hw => ?_)
    refine lv_aload_n hx hb dX5_read_18 rfl (lv_at hl 0 rfl) ?_
    refine lv_iconst (v := -1) hx hb dX5_read_19 (by decide) ?_
    refine pf_5_226 F hw dX5_read_20 (fun H locs hw => ?_)
    refine lv_aload_n hx hb dX5_read_23 rfl (lv_at hl 0 rfl) ?_
    refine lv_iconst (v := 0) hx hb dX5_read_24 (by decide) ?_
    obtain ⟨z4, hz4, h⟩ := stB h
    refine ctV (av := [.int 0]) (st0 := ([] : List Value)) (st1 := ([] : List Value)) F hw hA (k_X5_sum 7 _ _ _ _ _ _ _ _ _ _ _ _ _ _ _ _ _ _ _ _ _ _ _ _ _ _ _ _ _ _ _ hz4) kl_5_243 kd_X5_sum rfl ⟨by decide, by decide⟩ 0 rfl rfl hl.1 rfl (Nat.le_of_ble_eq_true rfl) dX5_read_25 rfl (fun H locs hw => ?_)
    refine lv_aload_n hx hb dX5_read_28 rfl (lv_at hl 0 rfl) ?_
    refine gf_5_150 F hw dX5_read_29 ?_
    refine lv_if_ne (tgt := 54) hx hb dX5_read_32 (by decide) (fun c5 => ?_) (fun c5 => ?_)
    · replace h := stF c5 h
      refine lv_aload_n hx hb dX5_read_54 rfl (lv_at hl 0 rfl) ?_
      refine lv_iconst (v := 0) hx hb dX5_read_55 (by decide) ?_
      refine pf_5_216 F hw dX5_read_56 (fun H locs hw => ?_)
      refine lv_aload_n hx hb dX5_read_59 rfl (lv_at hl 0 rfl) ?_
      refine gf_5_226 F hw dX5_read_60 ?_
      refine lv_if_lt (tgt := 76) hx hb dX5_read_63 (by decide) (fun c6 => ?_) (fun c6 => ?_)
      · replace h := stT c6 h
        refine lv_aload_n hx hb dX5_read_76 rfl (lv_at hl 0 rfl) ?_
        refine lv_iload_n hx hb dX5_read_77 rfl (lv_at hl 1 rfl) ?_
        obtain ⟨z7, hz7, h⟩ := stB h
        refine ctV (av := [.int v1]) (st0 := ([] : List Value)) (st1 := ([.int z7.1] : List Value)) F hw hA (k_X5_lays hz7) kl_5_183 kd_X5_lays rfl ⟨by decide, by decide⟩ 0 rfl rfl hl.1 rfl (Nat.le_of_ble_eq_true rfl) dX5_read_78 rfl (fun H locs hw => ?_)
        obtain rfl := Option.some.inj h
        exact hE H locs _ ls hw dX5_read_81
      · replace h := stF c6 h
        refine lv_bipush (v := -100) hx hb dX5_read_66 (by decide) ?_
        refine lv_aload_n hx hb dX5_read_68 rfl (lv_at hl 0 rfl) ?_
        refine gf_5_226 F hw dX5_read_69 ?_
        refine lv_isub hx hb dX5_read_72 ?_
        refine lv_goto (tgt := 81) hx hb dX5_read_73 (by decide) ?_
        obtain rfl := Option.some.inj h
        exact hE H locs _ ls hw dX5_read_81
    · replace h := stT c5 h
      refine lv_aload_n hx hb dX5_read_35 rfl (lv_at hl 0 rfl) ?_
      refine gf_5_219 F hw dX5_read_36 ?_
      refine lv_aload_n hx hb dX5_read_39 rfl (lv_at hl 0 rfl) ?_
      refine gf_5_216 F hw dX5_read_40 ?_
      refine lv_icmp_ge (tgt := 54) hx hb dX5_read_43 (by decide) (fun c8 => ?_) (fun c8 => ?_)
      · replace h := stT c8 h
        refine lv_aload_n hx hb dX5_read_54 rfl (lv_at hl 0 rfl) ?_
        refine lv_iconst (v := 0) hx hb dX5_read_55 (by decide) ?_
        refine pf_5_216 F hw dX5_read_56 (fun H locs hw => ?_)
        refine lv_aload_n hx hb dX5_read_59 rfl (lv_at hl 0 rfl) ?_
        refine gf_5_226 F hw dX5_read_60 ?_
        refine lv_if_lt (tgt := 76) hx hb dX5_read_63 (by decide) (fun c9 => ?_) (fun c9 => ?_)
        · replace h := stT c9 h
          refine lv_aload_n hx hb dX5_read_76 rfl (lv_at hl 0 rfl) ?_
          refine lv_iload_n hx hb dX5_read_77 rfl (lv_at hl 1 rfl) ?_
          obtain ⟨z10, hz10, h⟩ := stB h
          refine ctV (av := [.int v1]) (st0 := ([] : List Value)) (st1 := ([.int z10.1] : List Value)) F hw hA (k_X5_lays hz10) kl_5_183 kd_X5_lays rfl ⟨by decide, by decide⟩ 0 rfl rfl hl.1 rfl (Nat.le_of_ble_eq_true rfl) dX5_read_78 rfl (fun H locs hw => ?_)
          obtain rfl := Option.some.inj h
          exact hE H locs _ ls hw dX5_read_81
        · replace h := stF c9 h
          refine lv_bipush (v := -100) hx hb dX5_read_66 (by decide) ?_
          refine lv_aload_n hx hb dX5_read_68 rfl (lv_at hl 0 rfl) ?_
          refine gf_5_226 F hw dX5_read_69 ?_
          refine lv_isub hx hb dX5_read_72 ?_
          refine lv_goto (tgt := 81) hx hb dX5_read_73 (by decide) ?_
          obtain rfl := Option.some.inj h
          exact hE H locs _ ls hw dX5_read_81
      · replace h := stF c8 h
        refine lv_aload_n hx hb dX5_read_46 rfl (lv_at hl 0 rfl) ?_
        refine lv_aload_n hx hb dX5_read_47 rfl (lv_at hl 0 rfl) ?_
        refine gf_5_219 F hw dX5_read_48 ?_
        obtain ⟨z11, hz11, h⟩ := stB h
        refine ctV (av := [.int z4.2.2.2.2.2.2.2.2.2.1]) (st0 := ([] : List Value)) (st1 := ([] : List Value)) F hw hA (k_X5_faulty hz11) kl_5_233 kd_X5_faulty rfl ⟨by decide, by decide⟩ 0 rfl rfl hl.1 rfl (Nat.le_of_ble_eq_true rfl) dX5_read_51 rfl (fun H locs hw => ?_)
        refine lv_aload_n hx hb dX5_read_54 rfl (lv_at hl 0 rfl) ?_
        refine lv_iconst (v := 0) hx hb dX5_read_55 (by decide) ?_
        refine pf_5_216 F hw dX5_read_56 (fun H locs hw => ?_)
        refine lv_aload_n hx hb dX5_read_59 rfl (lv_at hl 0 rfl) ?_
        refine gf_5_226 F hw dX5_read_60 ?_
        refine lv_if_lt (tgt := 76) hx hb dX5_read_63 (by decide) (fun c12 => ?_) (fun c12 => ?_)
        · replace h := stT c12 h
          refine lv_aload_n hx hb dX5_read_76 rfl (lv_at hl 0 rfl) ?_
          refine lv_iload_n hx hb dX5_read_77 rfl (lv_at hl 1 rfl) ?_
          obtain ⟨z13, hz13, h⟩ := stB h
          refine ctV (av := [.int v1]) (st0 := ([] : List Value)) (st1 := ([.int z13.1] : List Value)) F hw hA (k_X5_lays hz13) kl_5_183 kd_X5_lays rfl ⟨by decide, by decide⟩ 0 rfl rfl hl.1 rfl (Nat.le_of_ble_eq_true rfl) dX5_read_78 rfl (fun H locs hw => ?_)
          obtain rfl := Option.some.inj h
          exact hE H locs _ ls hw dX5_read_81
        · replace h := stF c12 h
          refine lv_bipush (v := -100) hx hb dX5_read_66 (by decide) ?_
          refine lv_aload_n hx hb dX5_read_68 rfl (lv_at hl 0 rfl) ?_
          refine gf_5_226 F hw dX5_read_69 ?_
          refine lv_isub hx hb dX5_read_72 ?_
          refine lv_goto (tgt := 81) hx hb dX5_read_73 (by decide) ?_
          obtain rfl := Option.some.inj h
          exact hE H locs _ ls hw dX5_read_81
  · replace h := stT c2 h
    refine lv_iconst (v := -1) hx hb dX5_read_7 (by decide) ?_
    obtain rfl := Option.some.inj h
    exact hE H locs _ ls hw dX5_read_8
end
theorem dX5_isList_0 : decode cX5_isList 0 = .ok (.iload_n 0, 1) := by decide +kernel
theorem dX5_isList_1 : decode cX5_isList 1 = .ok (.i2l, 1) := by decide +kernel
theorem dX5_isList_2 : decode cX5_isList 2 = .ok (.lconst 0, 1) := by decide +kernel
theorem dX5_isList_3 : decode cX5_isList 3 = .ok (.ldc2_w 143, 3) := by decide +kernel
theorem dX5_isList_6 : decode cX5_isList 6 = .ok (.invokestatic 90, 3) := by decide +kernel
theorem dX5_isList_9 : decode cX5_isList 9 = .ok (.ireturn, 1) := by decide +kernel
section
variable {p : Program} {l : Launch} {e : Env} {s : State} {m : MethodId} {args : Array Value} {below : List Frame} {meth : Method} {c : Code} {Q : State → Prop} {G : GG} {A : Nat → Prop} {q : Nat → Nat} {fr : va_W}
def f_X5_isList (v0 : Int32) : Option (Int32) :=
  (f_X5_in v0.toInt64 0 2).bind fun z1 =>
  if z1 = 0 ∨ z1 = 1 then
  some z1
  else none
set_option maxHeartbeats 4000000 in
set_option maxRecDepth 100000 in
theorem k_X5_isList {l : Launch} {G : GG} {fr : va_W}   {v0 : Int32} {z : Int32}  (h : f_X5_isList v0 = some z) : Ct l G yX5_isList cX5_isList 1 (some .boolean) 1 25 [.int v0] fr (some (.int z)) fr := by
  refine Ct.of (by decide +kernel) (Nat.le_of_ble_eq_true rfl) trivial ?_
  intro p e s m args below meth c Q A ls F hw hA hE hl
  have hx := F.x
  have hb := F.b
  unfold f_X5_isList at h
  obtain ⟨H, hH⟩ : ∃ H, H = s.heap := ⟨_, rfl⟩
  obtain ⟨locs, hlo⟩ : ∃ locs : List Loc, locs = [] := ⟨_, rfl⟩
  rw [← hH, ← hlo] at hw ⊢
  have hl : lv_has ls 1 [(0, .int v0)] := hl
  refine lv_iload_n hx hb dX5_isList_0 rfl (lv_at hl 0 rfl) ?_
  refine lv_i2l (v := v0.toInt64) hx hb dX5_isList_1 rfl ?_
  refine lv_lconst (v := 0) hx hb dX5_isList_2 (by decide) ?_
  refine lv_ldc2 (v := 2) hx hb F.ow (F.ts _ kc_5_143) dX5_isList_3 ?_
  obtain ⟨z1, hz1, h⟩ := stB h
  refine ctS (av := [.long v0.toInt64, .long 0, .long 2]) (st0 := ([] : List Value)) (st1 := ([.int z1] : List Value)) F hw hA (k_X5_in hz1) kl_5_90 kd_X5_in rfl ⟨by decide, by decide⟩ hl.1 rfl (Nat.le_of_ble_eq_true rfl) dX5_isList_6 rfl (fun H locs hw => ?_)
  obtain ⟨g2, h⟩ := stG h
  obtain rfl := Option.some.inj h
  exact hE H locs _ ls hw g2 dX5_isList_9
end
theorem dX5_becomes_0 : decode cX5_becomes 0 = .ok (.aload_n 0, 1) := by decide +kernel
theorem dX5_becomes_1 : decode cX5_becomes 1 = .ok (.getfield 52, 3) := by decide +kernel
theorem dX5_becomes_4 : decode cX5_becomes 4 = .ok (.iload_n 1, 1) := by decide +kernel
theorem dX5_becomes_5 : decode cX5_becomes 5 = .ok (.iload_n 2, 1) := by decide +kernel
theorem dX5_becomes_6 : decode cX5_becomes 6 = .ok (.iastore, 1) := by decide +kernel
theorem dX5_becomes_7 : decode cX5_becomes 7 = .ok (.iconst 0, 1) := by decide +kernel
theorem dX5_becomes_8 : decode cX5_becomes 8 = .ok (.istore_n 3, 1) := by decide +kernel
theorem dX5_becomes_9 : decode cX5_becomes 9 = .ok (.iload_n 3, 1) := by decide +kernel
theorem dX5_becomes_10 : decode cX5_becomes 10 = .ok (.bipush 15, 2) := by decide +kernel
theorem dX5_becomes_12 : decode cX5_becomes 12 = .ok (.if_icmp .ge 21, 3) := by decide +kernel
theorem dX5_becomes_15 : decode cX5_becomes 15 = .ok (.aload_n 0, 1) := by decide +kernel
theorem dX5_becomes_16 : decode cX5_becomes 16 = .ok (.getfield 49, 3) := by decide +kernel
theorem dX5_becomes_19 : decode cX5_becomes 19 = .ok (.bipush 15, 2) := by decide +kernel
theorem dX5_becomes_21 : decode cX5_becomes 21 = .ok (.iload_n 1, 1) := by decide +kernel
theorem dX5_becomes_22 : decode cX5_becomes 22 = .ok (.imul, 1) := by decide +kernel
theorem dX5_becomes_23 : decode cX5_becomes 23 = .ok (.iload_n 3, 1) := by decide +kernel
theorem dX5_becomes_24 : decode cX5_becomes 24 = .ok (.iadd, 1) := by decide +kernel
theorem dX5_becomes_25 : decode cX5_becomes 25 = .ok (.lconst 0, 1) := by decide +kernel
theorem dX5_becomes_26 : decode cX5_becomes 26 = .ok (.lastore, 1) := by decide +kernel
theorem dX5_becomes_27 : decode cX5_becomes 27 = .ok (.iinc 3 1, 3) := by decide +kernel
theorem dX5_becomes_30 : decode cX5_becomes 30 = .ok (.goto (-21), 3) := by decide +kernel
theorem dX5_becomes_33 : decode cX5_becomes 33 = .ok (.return_, 1) := by decide +kernel
section
variable {p : Program} {l : Launch} {e : Env} {s : State} {m : MethodId} {args : Array Value} {below : List Frame} {meth : Method} {c : Code} {Q : State → Prop} {G : GG} {A : Nat → Prop} {q : Nat → Nat} {fr : va_W}
def f_X5_becomes_L9 (v1 : Int32) (v2 : Int32) : Nat → (Nat → Int64) → (Nat → Int32) → Int32 → Option ((Nat → Int64) × (Nat → Int32))
  | 0, _, _, _ => none
  | fu + 1, wLi, bSi, v3 =>
    if 15 ≤ v3 then
    some (wLi, bSi)
    else
    if inb ((15 * v1) + v3) 45 then
    f_X5_becomes_L9 v1 v2 fu (vp_updL wLi ((15 * v1) + v3).toNatClampNeg 0) bSi (v3 + 1)
    else none
set_option maxHeartbeats 4000000 in
set_option maxRecDepth 100000 in
theorem w_X5_becomes_L9  {yp : Int32} {ye : Int32} {yg : Int32} {bPo : Nat → Int32} {bTb : Nat → Int32} {wSh : Nat → Int64} {wTe : Nat → Int64} {wNx : Nat → Int64} {bOs : Nat → Int32} {bOn : Nat → Int32} {yop : Int32} {bSo : Nat → Int32} {bNu : Nat → Int32} {ytr : Int32} {yiw : Int32} {wMa : Nat → Int64} {wPr : Nat → Int64} {bTp : Nat → Int32} {yln : Int32} {ypl : Int32} {yfa : Int32} {yhp : Int32} {yhe : Int32} {yhg : Int32} {wHs : Nat → Int64} {yhi : Int32} {v1 : Int32} {v2 : Int32}  (F : Fx p s m args meth c cX5_becomes 4 RX5 none) (hA : ∀ q, s.heap.size ≤ q → A q)   : ∀ (fu : Nat) (wLi : Nat → Int64) (bSi : Nat → Int32) (v3 : Int32) (z : (Nat → Int64) × (Nat → Int32)), f_X5_becomes_L9 v1 v2 fu wLi bSi v3 = some z → Ends p l e (rmOf 0 0) s m args below meth c Q cX5_becomes G A none (none) (mW G q yp ye yg bPo bTb wSh wTe wNx bOs bOn yop bSo bNu ytr yiw wMa wPr bTp yln ypl yfa z.1 z.2 yhp yhe yhg wHs yhi ++ fr) → ∀ (H : Heap) (locs : List Loc) (ls : Array Slot), Wd G s A (mW G q yp ye yg bPo bTb wSh wTe wNx bOs bOn yop bSo bNu ytr yiw wMa wPr bTp yln ypl yfa wLi bSi yhp yhe yhg wHs yhi ++ fr) H locs → lv_has ls 4 [(0, .ref (q 0)), (1, .int v1), (3, .int v3)] → W p l e (rmOf 0 0) s m args below meth c H locs 0 0 Q (F0 m 9 ls []) := by
  have hx := F.x
  have hb := F.b
  intro fu
  induction fu with
  | zero =>
    intro wLi bSi v3 z h
    cases (h : none = some z)
  | succ fu ih =>
    intro wLi bSi v3 z h hE H locs ls hw hl
    rw [f_X5_becomes_L9] at h
    refine lv_iload_n hx hb dX5_becomes_9 rfl (lv_at hl 2 rfl) ?_
    refine lv_bipush (v := 15) hx hb dX5_becomes_10 (by decide) ?_
    refine lv_icmp_ge (tgt := 33) hx hb dX5_becomes_12 (by decide) (fun c1 => ?_) (fun c1 => ?_)
    · replace h := stT c1 h
      obtain rfl := Option.some.inj h
      exact hE H locs _ ls hw dX5_becomes_33
    · replace h := stF c1 h
      refine lv_aload_n hx hb dX5_becomes_15 rfl (lv_at hl 0 rfl) ?_
      refine gf_5_49 F hw dX5_becomes_16 ?_
      refine lv_bipush (v := 15) hx hb dX5_becomes_19 (by decide) ?_
      refine lv_iload_n hx hb dX5_becomes_21 rfl (lv_at hl 1 rfl) ?_
      refine lv_imul hx hb dX5_becomes_22 ?_
      refine lv_iload_n hx hb dX5_becomes_23 rfl (lv_at hl 2 rfl) ?_
      refine lv_iadd hx hb dX5_becomes_24 ?_
      refine lv_lconst (v := 0) hx hb dX5_becomes_25 (by decide) ?_
      obtain ⟨g2, h⟩ := stG h
      refine as_m13 F hw g2 dX5_becomes_26 (fun H locs hw => ?_)
      refine lv_iinc (v := (v3 + 1)) (lv' := [(3, .int (v3 + 1)), (0, .ref (q 0)), (1, .int v1)]) hx hb dX5_becomes_27 hl (k := 2) rfl rfl (by decide) rfl (fun ls hl => ?_)
      refine lv_goto (tgt := 9) hx hb dX5_becomes_30 (by decide) ?_
      exact ih _ _ _ z h hE H locs ls hw (lv_sub hl [1, 2, 0] rfl)
def f_X5_becomes (wLi : Nat → Int64) (bSi : Nat → Int32) (v1 : Int32) (v2 : Int32) : Option ((Nat → Int64) × (Nat → Int32)) :=
  if inb v1 3 then
  f_X5_becomes_L9 v1 v2 FU wLi (upd bSi v1.toNatClampNeg v2) 0
  else none
set_option maxHeartbeats 4000000 in
set_option maxRecDepth 100000 in
theorem k_X5_becomes {l : Launch} {G : GG} {q : Nat → Nat} {fr : va_W}  {yp : Int32} {ye : Int32} {yg : Int32} {bPo : Nat → Int32} {bTb : Nat → Int32} {wSh : Nat → Int64} {wTe : Nat → Int64} {wNx : Nat → Int64} {bOs : Nat → Int32} {bOn : Nat → Int32} {yop : Int32} {bSo : Nat → Int32} {bNu : Nat → Int32} {ytr : Int32} {yiw : Int32} {wMa : Nat → Int64} {wPr : Nat → Int64} {bTp : Nat → Int32} {yln : Int32} {ypl : Int32} {yfa : Int32} {wLi : Nat → Int64} {bSi : Nat → Int32} {yhp : Int32} {yhe : Int32} {yhg : Int32} {wHs : Nat → Int64} {yhi : Int32} {v1 : Int32} {v2 : Int32} {z : (Nat → Int64) × (Nat → Int32)}  (h : f_X5_becomes wLi bSi v1 v2 = some z) : Ct l G yX5_becomes cX5_becomes 4 none 0 0 [.ref (q 0), .int v1, .int v2] (mW G q yp ye yg bPo bTb wSh wTe wNx bOs bOn yop bSo bNu ytr yiw wMa wPr bTp yln ypl yfa wLi bSi yhp yhe yhg wHs yhi ++ fr) (none) (mW G q yp ye yg bPo bTb wSh wTe wNx bOs bOn yop bSo bNu ytr yiw wMa wPr bTp yln ypl yfa z.1 z.2 yhp yhe yhg wHs yhi ++ fr) := by
  refine Ct.of (by decide +kernel) (Nat.le_of_ble_eq_true rfl) trivial ?_
  intro p e s m args below meth c Q A ls F hw hA hE hl
  have hx := F.x
  have hb := F.b
  unfold f_X5_becomes at h
  obtain ⟨H, hH⟩ : ∃ H, H = s.heap := ⟨_, rfl⟩
  obtain ⟨locs, hlo⟩ : ∃ locs : List Loc, locs = [] := ⟨_, rfl⟩
  rw [← hH, ← hlo] at hw ⊢
  have hl : lv_has ls 4 [(0, .ref (q 0)), (1, .int v1), (2, .int v2)] := hl
  refine lv_aload_n hx hb dX5_becomes_0 rfl (lv_at hl 0 rfl) ?_
  refine gf_5_52 F hw dX5_becomes_1 ?_
  refine lv_iload_n hx hb dX5_becomes_4 rfl (lv_at hl 1 rfl) ?_
  refine lv_iload_n hx hb dX5_becomes_5 rfl (lv_at hl 2 rfl) ?_
  obtain ⟨g1, h⟩ := stG h
  refine as_m14 F hw g1 dX5_becomes_6 (fun H locs hw => ?_)
  refine lv_iconst (v := 0) hx hb dX5_becomes_7 (by decide) ?_
  refine lv_istore_n (lv' := [(3, .int 0), (0, .ref (q 0)), (1, .int v1), (2, .int v2)]) hx hb dX5_becomes_8 rfl hl (by decide) rfl (fun ls hl => ?_)
  exact w_X5_becomes_L9 F hA  FU _ _ _ z h hE H locs ls hw (lv_sub hl [1, 2, 0] rfl)
end
theorem dX5_list_0 : decode cX5_list 0 = .ok (.iload_n 1, 1) := by decide +kernel
theorem dX5_list_1 : decode cX5_list 1 = .ok (.invokestatic 252, 3) := by decide +kernel
theorem dX5_list_4 : decode cX5_list 4 = .ok (.ifCond .ne 5, 3) := by decide +kernel
theorem dX5_list_7 : decode cX5_list 7 = .ok (.iconst (-1), 1) := by decide +kernel
theorem dX5_list_8 : decode cX5_list 8 = .ok (.ireturn, 1) := by decide +kernel
theorem dX5_list_9 : decode cX5_list 9 = .ok (.iload_n 2, 1) := by decide +kernel
theorem dX5_list_10 : decode cX5_list 10 = .ok (.bipush 15, 2) := by decide +kernel
theorem dX5_list_12 : decode cX5_list 12 = .ok (.if_icmp .le 6, 3) := by decide +kernel
theorem dX5_list_15 : decode cX5_list 15 = .ok (.bipush (-2), 2) := by decide +kernel
theorem dX5_list_17 : decode cX5_list 17 = .ok (.ireturn, 1) := by decide +kernel
theorem dX5_list_18 : decode cX5_list 18 = .ok (.iload_n 2, 1) := by decide +kernel
theorem dX5_list_19 : decode cX5_list 19 = .ok (.iconst (-1), 1) := by decide +kernel
theorem dX5_list_20 : decode cX5_list 20 = .ok (.if_icmp .ge 6, 3) := by decide +kernel
theorem dX5_list_23 : decode cX5_list 23 = .ok (.bipush (-14), 2) := by decide +kernel
theorem dX5_list_25 : decode cX5_list 25 = .ok (.ireturn, 1) := by decide +kernel
theorem dX5_list_26 : decode cX5_list 26 = .ok (.aload_n 0, 1) := by decide +kernel
theorem dX5_list_27 : decode cX5_list 27 = .ok (.iload_n 1, 1) := by decide +kernel
theorem dX5_list_28 : decode cX5_list 28 = .ok (.iload_n 2, 1) := by decide +kernel
theorem dX5_list_29 : decode cX5_list 29 = .ok (.invokevirtual 255, 3) := by decide +kernel
theorem dX5_list_32 : decode cX5_list 32 = .ok (.iconst 1, 1) := by decide +kernel
theorem dX5_list_33 : decode cX5_list 33 = .ok (.ireturn, 1) := by decide +kernel
section
variable {p : Program} {l : Launch} {e : Env} {s : State} {m : MethodId} {args : Array Value} {below : List Frame} {meth : Method} {c : Code} {Q : State → Prop} {G : GG} {A : Nat → Prop} {q : Nat → Nat} {fr : va_W}
def f_X5_list (wLi : Nat → Int64) (bSi : Nat → Int32) (v1 : Int32) (v2 : Int32) : Option (Int32 × (Nat → Int64) × (Nat → Int32)) :=
  (f_X5_isList v1).bind fun z1 =>
  if z1 = 0 then
  some ((-1), wLi, bSi)
  else
  if v2 ≤ 15 then
  if (-1) ≤ v2 then
  (f_X5_becomes wLi bSi v1 v2).bind fun z5 =>
  some (1, z5.1, z5.2)
  else
  some ((-14), wLi, bSi)
  else
  some ((-2), wLi, bSi)
set_option maxHeartbeats 4000000 in
set_option maxRecDepth 100000 in
theorem k_X5_list {l : Launch} {G : GG} {q : Nat → Nat} {fr : va_W}  {yp : Int32} {ye : Int32} {yg : Int32} {bPo : Nat → Int32} {bTb : Nat → Int32} {wSh : Nat → Int64} {wTe : Nat → Int64} {wNx : Nat → Int64} {bOs : Nat → Int32} {bOn : Nat → Int32} {yop : Int32} {bSo : Nat → Int32} {bNu : Nat → Int32} {ytr : Int32} {yiw : Int32} {wMa : Nat → Int64} {wPr : Nat → Int64} {bTp : Nat → Int32} {yln : Int32} {ypl : Int32} {yfa : Int32} {wLi : Nat → Int64} {bSi : Nat → Int32} {yhp : Int32} {yhe : Int32} {yhg : Int32} {wHs : Nat → Int64} {yhi : Int32} {v1 : Int32} {v2 : Int32} {z : Int32 × (Nat → Int64) × (Nat → Int32)}  (h : f_X5_list wLi bSi v1 v2 = some z) : Ct l G yX5_list cX5_list 3 (some .int) 2 45 [.ref (q 0), .int v1, .int v2] (mW G q yp ye yg bPo bTb wSh wTe wNx bOs bOn yop bSo bNu ytr yiw wMa wPr bTp yln ypl yfa wLi bSi yhp yhe yhg wHs yhi ++ fr) (some (.int z.1)) (mW G q yp ye yg bPo bTb wSh wTe wNx bOs bOn yop bSo bNu ytr yiw wMa wPr bTp yln ypl yfa z.2.1 z.2.2 yhp yhe yhg wHs yhi ++ fr) := by
  refine Ct.of (by decide +kernel) (Nat.le_of_ble_eq_true rfl) trivial ?_
  intro p e s m args below meth c Q A ls F hw hA hE hl
  have hx := F.x
  have hb := F.b
  unfold f_X5_list at h
  obtain ⟨H, hH⟩ : ∃ H, H = s.heap := ⟨_, rfl⟩
  obtain ⟨locs, hlo⟩ : ∃ locs : List Loc, locs = [] := ⟨_, rfl⟩
  rw [← hH, ← hlo] at hw ⊢
  have hl : lv_has ls 3 [(0, .ref (q 0)), (1, .int v1), (2, .int v2)] := hl
  refine lv_iload_n hx hb dX5_list_0 rfl (lv_at hl 1 rfl) ?_
  obtain ⟨z1, hz1, h⟩ := stB h
  refine ctS (av := [.int v1]) (st0 := ([] : List Value)) (st1 := ([.int z1] : List Value)) F hw hA (k_X5_isList hz1) kl_5_252 kd_X5_isList rfl ⟨by decide, by decide⟩ hl.1 rfl (Nat.le_of_ble_eq_true rfl) dX5_list_1 rfl (fun H locs hw => ?_)
  refine lv_if_ne (tgt := 9) hx hb dX5_list_4 (by decide) (fun c2 => ?_) (fun c2 => ?_)
  · replace h := stF c2 h
    refine lv_iload_n hx hb dX5_list_9 rfl (lv_at hl 2 rfl) ?_
    refine lv_bipush (v := 15) hx hb dX5_list_10 (by decide) ?_
    refine lv_icmp_le (tgt := 18) hx hb dX5_list_12 (by decide) (fun c3 => ?_) (fun c3 => ?_)
    · replace h := stT c3 h
      refine lv_iload_n hx hb dX5_list_18 rfl (lv_at hl 2 rfl) ?_
      refine lv_iconst (v := -1) hx hb dX5_list_19 (by decide) ?_
      refine lv_icmp_ge (tgt := 26) hx hb dX5_list_20 (by decide) (fun c4 => ?_) (fun c4 => ?_)
      · replace h := stT c4 h
        refine lv_aload_n hx hb dX5_list_26 rfl (lv_at hl 0 rfl) ?_
        refine lv_iload_n hx hb dX5_list_27 rfl (lv_at hl 1 rfl) ?_
        refine lv_iload_n hx hb dX5_list_28 rfl (lv_at hl 2 rfl) ?_
        obtain ⟨z5, hz5, h⟩ := stB h
        refine ctV (av := [.int v1, .int v2]) (st0 := ([] : List Value)) (st1 := ([] : List Value)) F hw hA (k_X5_becomes hz5) kl_5_255 kd_X5_becomes rfl ⟨by decide, by decide⟩ 0 rfl rfl hl.1 rfl (Nat.le_of_ble_eq_true rfl) dX5_list_29 rfl (fun H locs hw => ?_)
        refine lv_iconst (v := 1) hx hb dX5_list_32 (by decide) ?_
        obtain rfl := Option.some.inj h
        exact hE H locs _ ls hw dX5_list_33
      · replace h := stF c4 h
        refine lv_bipush (v := -14) hx hb dX5_list_23 (by decide) ?_
        obtain rfl := Option.some.inj h
        exact hE H locs _ ls hw dX5_list_25
    · replace h := stF c3 h
      refine lv_bipush (v := -2) hx hb dX5_list_15 (by decide) ?_
      obtain rfl := Option.some.inj h
      exact hE H locs _ ls hw dX5_list_17
  · replace h := stT c2 h
    refine lv_iconst (v := -1) hx hb dX5_list_7 (by decide) ?_
    obtain rfl := Option.some.inj h
    exact hE H locs _ ls hw dX5_list_8
end
theorem dX5_lay_0 : decode cX5_lay 0 = .ok (.iload_n 1, 1) := by decide +kernel
theorem dX5_lay_1 : decode cX5_lay 1 = .ok (.invokestatic 252, 3) := by decide +kernel
theorem dX5_lay_4 : decode cX5_lay 4 = .ok (.ifCond .ne 5, 3) := by decide +kernel
theorem dX5_lay_7 : decode cX5_lay 7 = .ok (.iconst (-1), 1) := by decide +kernel
theorem dX5_lay_8 : decode cX5_lay 8 = .ok (.ireturn, 1) := by decide +kernel
theorem dX5_lay_9 : decode cX5_lay 9 = .ok (.aload_n 0, 1) := by decide +kernel
theorem dX5_lay_10 : decode cX5_lay 10 = .ok (.getfield 52, 3) := by decide +kernel
theorem dX5_lay_13 : decode cX5_lay 13 = .ok (.iload_n 1, 1) := by decide +kernel
theorem dX5_lay_14 : decode cX5_lay 14 = .ok (.iaload, 1) := by decide +kernel
theorem dX5_lay_15 : decode cX5_lay 15 = .ok (.iconst (-1), 1) := by decide +kernel
theorem dX5_lay_16 : decode cX5_lay 16 = .ok (.if_icmp .ne 6, 3) := by decide +kernel
theorem dX5_lay_19 : decode cX5_lay 19 = .ok (.bipush (-11), 2) := by decide +kernel
theorem dX5_lay_21 : decode cX5_lay 21 = .ok (.ireturn, 1) := by decide +kernel
theorem dX5_lay_22 : decode cX5_lay 22 = .ok (.iload_n 2, 1) := by decide +kernel
theorem dX5_lay_23 : decode cX5_lay 23 = .ok (.i2l, 1) := by decide +kernel
theorem dX5_lay_24 : decode cX5_lay 24 = .ok (.lconst 0, 1) := by decide +kernel
theorem dX5_lay_25 : decode cX5_lay 25 = .ok (.aload_n 0, 1) := by decide +kernel
theorem dX5_lay_26 : decode cX5_lay 26 = .ok (.getfield 52, 3) := by decide +kernel
theorem dX5_lay_29 : decode cX5_lay 29 = .ok (.iload_n 1, 1) := by decide +kernel
theorem dX5_lay_30 : decode cX5_lay 30 = .ok (.iaload, 1) := by decide +kernel
theorem dX5_lay_31 : decode cX5_lay 31 = .ok (.iconst 1, 1) := by decide +kernel
theorem dX5_lay_32 : decode cX5_lay 32 = .ok (.isub, 1) := by decide +kernel
theorem dX5_lay_33 : decode cX5_lay 33 = .ok (.i2l, 1) := by decide +kernel
theorem dX5_lay_34 : decode cX5_lay 34 = .ok (.invokestatic 90, 3) := by decide +kernel
theorem dX5_lay_37 : decode cX5_lay 37 = .ok (.ifCond .ne 6, 3) := by decide +kernel
theorem dX5_lay_40 : decode cX5_lay 40 = .ok (.bipush (-13), 2) := by decide +kernel
theorem dX5_lay_42 : decode cX5_lay 42 = .ok (.ireturn, 1) := by decide +kernel
theorem dX5_lay_43 : decode cX5_lay 43 = .ok (.aload_n 0, 1) := by decide +kernel
theorem dX5_lay_44 : decode cX5_lay 44 = .ok (.getfield 49, 3) := by decide +kernel
theorem dX5_lay_47 : decode cX5_lay 47 = .ok (.bipush 15, 2) := by decide +kernel
theorem dX5_lay_49 : decode cX5_lay 49 = .ok (.iload_n 1, 1) := by decide +kernel
theorem dX5_lay_50 : decode cX5_lay 50 = .ok (.imul, 1) := by decide +kernel
theorem dX5_lay_51 : decode cX5_lay 51 = .ok (.iload_n 2, 1) := by decide +kernel
theorem dX5_lay_52 : decode cX5_lay 52 = .ok (.iadd, 1) := by decide +kernel
theorem dX5_lay_53 : decode cX5_lay 53 = .ok (.lload_n 3, 1) := by decide +kernel
theorem dX5_lay_54 : decode cX5_lay 54 = .ok (.lastore, 1) := by decide +kernel
theorem dX5_lay_55 : decode cX5_lay 55 = .ok (.iconst 1, 1) := by decide +kernel
theorem dX5_lay_56 : decode cX5_lay 56 = .ok (.ireturn, 1) := by decide +kernel
section
variable {p : Program} {l : Launch} {e : Env} {s : State} {m : MethodId} {args : Array Value} {below : List Frame} {meth : Method} {c : Code} {Q : State → Prop} {G : GG} {A : Nat → Prop} {q : Nat → Nat} {fr : va_W}
def f_X5_lay (wLi : Nat → Int64) (bSi : Nat → Int32) (v1 : Int32) (v2 : Int32) (v3 : Int64) : Option (Int32 × (Nat → Int64)) :=
  (f_X5_isList v1).bind fun z1 =>
  if z1 = 0 then
  some ((-1), wLi)
  else
  if inb v1 3 then
  if (bSi v1.toNatClampNeg) = (-1) then
  some ((-11), wLi)
  else
  if inb v1 3 then
  (f_X5_in v2.toInt64 0 (((bSi v1.toNatClampNeg) - 1).toInt64)).bind fun z6 =>
  if z6 = 0 then
  some ((-13), wLi)
  else
  if inb ((15 * v1) + v2) 45 then
  some (1, (vp_updL wLi ((15 * v1) + v2).toNatClampNeg v3))
  else none
  else none
  else none
set_option maxHeartbeats 4000000 in
set_option maxRecDepth 100000 in
theorem k_X5_lay {l : Launch} {G : GG} {q : Nat → Nat} {fr : va_W}  {yp : Int32} {ye : Int32} {yg : Int32} {bPo : Nat → Int32} {bTb : Nat → Int32} {wSh : Nat → Int64} {wTe : Nat → Int64} {wNx : Nat → Int64} {bOs : Nat → Int32} {bOn : Nat → Int32} {yop : Int32} {bSo : Nat → Int32} {bNu : Nat → Int32} {ytr : Int32} {yiw : Int32} {wMa : Nat → Int64} {wPr : Nat → Int64} {bTp : Nat → Int32} {yln : Int32} {ypl : Int32} {yfa : Int32} {wLi : Nat → Int64} {bSi : Nat → Int32} {yhp : Int32} {yhe : Int32} {yhg : Int32} {wHs : Nat → Int64} {yhi : Int32} {v1 : Int32} {v2 : Int32} {v3 : Int64} {z : Int32 × (Nat → Int64)}  (h : f_X5_lay wLi bSi v1 v2 v3 = some z) : Ct l G yX5_lay cX5_lay 5 (some .int) 2 45 [.ref (q 0), .int v1, .int v2, .long v3] (mW G q yp ye yg bPo bTb wSh wTe wNx bOs bOn yop bSo bNu ytr yiw wMa wPr bTp yln ypl yfa wLi bSi yhp yhe yhg wHs yhi ++ fr) (some (.int z.1)) (mW G q yp ye yg bPo bTb wSh wTe wNx bOs bOn yop bSo bNu ytr yiw wMa wPr bTp yln ypl yfa z.2 bSi yhp yhe yhg wHs yhi ++ fr) := by
  refine Ct.of (by decide +kernel) (Nat.le_of_ble_eq_true rfl) trivial ?_
  intro p e s m args below meth c Q A ls F hw hA hE hl
  have hx := F.x
  have hb := F.b
  unfold f_X5_lay at h
  obtain ⟨H, hH⟩ : ∃ H, H = s.heap := ⟨_, rfl⟩
  obtain ⟨locs, hlo⟩ : ∃ locs : List Loc, locs = [] := ⟨_, rfl⟩
  rw [← hH, ← hlo] at hw ⊢
  have hl : lv_has ls 5 [(0, .ref (q 0)), (1, .int v1), (2, .int v2), (3, .long v3)] := hl
  refine lv_iload_n hx hb dX5_lay_0 rfl (lv_at hl 1 rfl) ?_
  obtain ⟨z1, hz1, h⟩ := stB h
  refine ctS (av := [.int v1]) (st0 := ([] : List Value)) (st1 := ([.int z1] : List Value)) F hw hA (k_X5_isList hz1) kl_5_252 kd_X5_isList rfl ⟨by decide, by decide⟩ hl.1 rfl (Nat.le_of_ble_eq_true rfl) dX5_lay_1 rfl (fun H locs hw => ?_)
  refine lv_if_ne (tgt := 9) hx hb dX5_lay_4 (by decide) (fun c2 => ?_) (fun c2 => ?_)
  · replace h := stF c2 h
    refine lv_aload_n hx hb dX5_lay_9 rfl (lv_at hl 0 rfl) ?_
    refine gf_5_52 F hw dX5_lay_10 ?_
    refine lv_iload_n hx hb dX5_lay_13 rfl (lv_at hl 1 rfl) ?_
    obtain ⟨g3, h⟩ := stG h
    refine al_m14 F hw g3 dX5_lay_14 ?_
    refine lv_iconst (v := -1) hx hb dX5_lay_15 (by decide) ?_
    refine lv_icmp_ne (tgt := 22) hx hb dX5_lay_16 (by decide) (fun c4 => ?_) (fun c4 => ?_)
    · replace h := stF c4 h
      refine lv_iload_n hx hb dX5_lay_22 rfl (lv_at hl 2 rfl) ?_
      refine lv_i2l (v := v2.toInt64) hx hb dX5_lay_23 rfl ?_
      refine lv_lconst (v := 0) hx hb dX5_lay_24 (by decide) ?_
      refine lv_aload_n hx hb dX5_lay_25 rfl (lv_at hl 0 rfl) ?_
      refine gf_5_52 F hw dX5_lay_26 ?_
      refine lv_iload_n hx hb dX5_lay_29 rfl (lv_at hl 1 rfl) ?_
      obtain ⟨g5, h⟩ := stG h
      refine al_m14 F hw g5 dX5_lay_30 ?_
      refine lv_iconst (v := 1) hx hb dX5_lay_31 (by decide) ?_
      refine lv_isub hx hb dX5_lay_32 ?_
      refine lv_i2l (v := ((bSi v1.toNatClampNeg) - 1).toInt64) hx hb dX5_lay_33 rfl ?_
      obtain ⟨z6, hz6, h⟩ := stB h
      refine ctS (av := [.long v2.toInt64, .long 0, .long (((bSi v1.toNatClampNeg) - 1).toInt64)]) (st0 := ([] : List Value)) (st1 := ([.int z6] : List Value)) F hw hA (k_X5_in hz6) kl_5_90 kd_X5_in rfl ⟨by decide, by decide⟩ hl.1 rfl (Nat.le_of_ble_eq_true rfl) dX5_lay_34 rfl (fun H locs hw => ?_)
      refine lv_if_ne (tgt := 43) hx hb dX5_lay_37 (by decide) (fun c7 => ?_) (fun c7 => ?_)
      · replace h := stF c7 h
        refine lv_aload_n hx hb dX5_lay_43 rfl (lv_at hl 0 rfl) ?_
        refine gf_5_49 F hw dX5_lay_44 ?_
        refine lv_bipush (v := 15) hx hb dX5_lay_47 (by decide) ?_
        refine lv_iload_n hx hb dX5_lay_49 rfl (lv_at hl 1 rfl) ?_
        refine lv_imul hx hb dX5_lay_50 ?_
        refine lv_iload_n hx hb dX5_lay_51 rfl (lv_at hl 2 rfl) ?_
        refine lv_iadd hx hb dX5_lay_52 ?_
        refine lv_lload_n hx hb dX5_lay_53 rfl (lv_at hl 3 rfl) ?_
        obtain ⟨g8, h⟩ := stG h
        refine as_m13 F hw g8 dX5_lay_54 (fun H locs hw => ?_)
        refine lv_iconst (v := 1) hx hb dX5_lay_55 (by decide) ?_
        obtain rfl := Option.some.inj h
        exact hE H locs _ ls hw dX5_lay_56
      · replace h := stT c7 h
        refine lv_bipush (v := -13) hx hb dX5_lay_40 (by decide) ?_
        obtain rfl := Option.some.inj h
        exact hE H locs _ ls hw dX5_lay_42
    · replace h := stT c4 h
      refine lv_bipush (v := -11) hx hb dX5_lay_19 (by decide) ?_
      obtain rfl := Option.some.inj h
      exact hE H locs _ ls hw dX5_lay_21
  · replace h := stT c2 h
    refine lv_iconst (v := -1) hx hb dX5_lay_7 (by decide) ?_
    obtain rfl := Option.some.inj h
    exact hE H locs _ ls hw dX5_lay_8
end
theorem dX5_get_0 : decode cX5_get 0 = .ok (.iload_n 1, 1) := by decide +kernel
theorem dX5_get_1 : decode cX5_get 1 = .ok (.invokestatic 252, 3) := by decide +kernel
theorem dX5_get_4 : decode cX5_get 4 = .ok (.ifCond .eq 35, 3) := by decide +kernel
theorem dX5_get_7 : decode cX5_get 7 = .ok (.iload_n 2, 1) := by decide +kernel
theorem dX5_get_8 : decode cX5_get 8 = .ok (.i2l, 1) := by decide +kernel
theorem dX5_get_9 : decode cX5_get 9 = .ok (.lconst 0, 1) := by decide +kernel
theorem dX5_get_10 : decode cX5_get 10 = .ok (.aload_n 0, 1) := by decide +kernel
theorem dX5_get_11 : decode cX5_get 11 = .ok (.getfield 52, 3) := by decide +kernel
theorem dX5_get_14 : decode cX5_get 14 = .ok (.iload_n 1, 1) := by decide +kernel
theorem dX5_get_15 : decode cX5_get 15 = .ok (.iaload, 1) := by decide +kernel
theorem dX5_get_16 : decode cX5_get 16 = .ok (.iconst 1, 1) := by decide +kernel
theorem dX5_get_17 : decode cX5_get 17 = .ok (.isub, 1) := by decide +kernel
theorem dX5_get_18 : decode cX5_get 18 = .ok (.i2l, 1) := by decide +kernel
theorem dX5_get_19 : decode cX5_get 19 = .ok (.invokestatic 90, 3) := by decide +kernel
theorem dX5_get_22 : decode cX5_get 22 = .ok (.ifCond .eq 17, 3) := by decide +kernel
theorem dX5_get_25 : decode cX5_get 25 = .ok (.aload_n 0, 1) := by decide +kernel
theorem dX5_get_26 : decode cX5_get 26 = .ok (.getfield 49, 3) := by decide +kernel
theorem dX5_get_29 : decode cX5_get 29 = .ok (.bipush 15, 2) := by decide +kernel
theorem dX5_get_31 : decode cX5_get 31 = .ok (.iload_n 1, 1) := by decide +kernel
theorem dX5_get_32 : decode cX5_get 32 = .ok (.imul, 1) := by decide +kernel
theorem dX5_get_33 : decode cX5_get 33 = .ok (.iload_n 2, 1) := by decide +kernel
theorem dX5_get_34 : decode cX5_get 34 = .ok (.iadd, 1) := by decide +kernel
theorem dX5_get_35 : decode cX5_get 35 = .ok (.laload, 1) := by decide +kernel
theorem dX5_get_36 : decode cX5_get 36 = .ok (.goto 6, 3) := by decide +kernel
theorem dX5_get_39 : decode cX5_get 39 = .ok (.ldc2_w 138, 3) := by decide +kernel
theorem dX5_get_42 : decode cX5_get 42 = .ok (.lreturn, 1) := by decide +kernel
section
variable {p : Program} {l : Launch} {e : Env} {s : State} {m : MethodId} {args : Array Value} {below : List Frame} {meth : Method} {c : Code} {Q : State → Prop} {G : GG} {A : Nat → Prop} {q : Nat → Nat} {fr : va_W}
def f_X5_get (wLi : Nat → Int64) (bSi : Nat → Int32) (v1 : Int32) (v2 : Int32) : Option (Int64) :=
  (f_X5_isList v1).bind fun z1 =>
  if z1 = 0 then
  some (-9223372036854775808)
  else
  if inb v1 3 then
  (f_X5_in v2.toInt64 0 (((bSi v1.toNatClampNeg) - 1).toInt64)).bind fun z4 =>
  if z4 = 0 then
  some (-9223372036854775808)
  else
  if inb ((15 * v1) + v2) 45 then
  some (wLi ((15 * v1) + v2).toNatClampNeg)
  else none
  else none
set_option maxHeartbeats 4000000 in
set_option maxRecDepth 100000 in
theorem k_X5_get {l : Launch} {G : GG} {q : Nat → Nat} {fr : va_W}  {yp : Int32} {ye : Int32} {yg : Int32} {bPo : Nat → Int32} {bTb : Nat → Int32} {wSh : Nat → Int64} {wTe : Nat → Int64} {wNx : Nat → Int64} {bOs : Nat → Int32} {bOn : Nat → Int32} {yop : Int32} {bSo : Nat → Int32} {bNu : Nat → Int32} {ytr : Int32} {yiw : Int32} {wMa : Nat → Int64} {wPr : Nat → Int64} {bTp : Nat → Int32} {yln : Int32} {ypl : Int32} {yfa : Int32} {wLi : Nat → Int64} {bSi : Nat → Int32} {yhp : Int32} {yhe : Int32} {yhg : Int32} {wHs : Nat → Int64} {yhi : Int32} {v1 : Int32} {v2 : Int32} {z : Int64}  (h : f_X5_get wLi bSi v1 v2 = some z) : Ct l G yX5_get cX5_get 3 (some .long) 2 45 [.ref (q 0), .int v1, .int v2] (mW G q yp ye yg bPo bTb wSh wTe wNx bOs bOn yop bSo bNu ytr yiw wMa wPr bTp yln ypl yfa wLi bSi yhp yhe yhg wHs yhi ++ fr) (some (.long z)) (mW G q yp ye yg bPo bTb wSh wTe wNx bOs bOn yop bSo bNu ytr yiw wMa wPr bTp yln ypl yfa wLi bSi yhp yhe yhg wHs yhi ++ fr) := by
  refine Ct.of (by decide +kernel) (Nat.le_of_ble_eq_true rfl) trivial ?_
  intro p e s m args below meth c Q A ls F hw hA hE hl
  have hx := F.x
  have hb := F.b
  unfold f_X5_get at h
  obtain ⟨H, hH⟩ : ∃ H, H = s.heap := ⟨_, rfl⟩
  obtain ⟨locs, hlo⟩ : ∃ locs : List Loc, locs = [] := ⟨_, rfl⟩
  rw [← hH, ← hlo] at hw ⊢
  have hl : lv_has ls 3 [(0, .ref (q 0)), (1, .int v1), (2, .int v2)] := hl
  refine lv_iload_n hx hb dX5_get_0 rfl (lv_at hl 1 rfl) ?_
  obtain ⟨z1, hz1, h⟩ := stB h
  refine ctS (av := [.int v1]) (st0 := ([] : List Value)) (st1 := ([.int z1] : List Value)) F hw hA (k_X5_isList hz1) kl_5_252 kd_X5_isList rfl ⟨by decide, by decide⟩ hl.1 rfl (Nat.le_of_ble_eq_true rfl) dX5_get_1 rfl (fun H locs hw => ?_)
  refine lv_if_eq (tgt := 39) hx hb dX5_get_4 (by decide) (fun c2 => ?_) (fun c2 => ?_)
  · replace h := stT c2 h
    refine lv_ldc2 (v := -9223372036854775808) hx hb F.ow (F.ts _ kc_5_138) dX5_get_39 ?_
    obtain rfl := Option.some.inj h
    exact hE H locs _ ls hw dX5_get_42
  · replace h := stF c2 h
    refine lv_iload_n hx hb dX5_get_7 rfl (lv_at hl 2 rfl) ?_
    refine lv_i2l (v := v2.toInt64) hx hb dX5_get_8 rfl ?_
    refine lv_lconst (v := 0) hx hb dX5_get_9 (by decide) ?_
    refine lv_aload_n hx hb dX5_get_10 rfl (lv_at hl 0 rfl) ?_
    refine gf_5_52 F hw dX5_get_11 ?_
    refine lv_iload_n hx hb dX5_get_14 rfl (lv_at hl 1 rfl) ?_
    obtain ⟨g3, h⟩ := stG h
    refine al_m14 F hw g3 dX5_get_15 ?_
    refine lv_iconst (v := 1) hx hb dX5_get_16 (by decide) ?_
    refine lv_isub hx hb dX5_get_17 ?_
    refine lv_i2l (v := ((bSi v1.toNatClampNeg) - 1).toInt64) hx hb dX5_get_18 rfl ?_
    obtain ⟨z4, hz4, h⟩ := stB h
    refine ctS (av := [.long v2.toInt64, .long 0, .long (((bSi v1.toNatClampNeg) - 1).toInt64)]) (st0 := ([] : List Value)) (st1 := ([.int z4] : List Value)) F hw hA (k_X5_in hz4) kl_5_90 kd_X5_in rfl ⟨by decide, by decide⟩ hl.1 rfl (Nat.le_of_ble_eq_true rfl) dX5_get_19 rfl (fun H locs hw => ?_)
    refine lv_if_eq (tgt := 39) hx hb dX5_get_22 (by decide) (fun c5 => ?_) (fun c5 => ?_)
    · replace h := stT c5 h
      refine lv_ldc2 (v := -9223372036854775808) hx hb F.ow (F.ts _ kc_5_138) dX5_get_39 ?_
      obtain rfl := Option.some.inj h
      exact hE H locs _ ls hw dX5_get_42
    · replace h := stF c5 h
      refine lv_aload_n hx hb dX5_get_25 rfl (lv_at hl 0 rfl) ?_
      refine gf_5_49 F hw dX5_get_26 ?_
      refine lv_bipush (v := 15) hx hb dX5_get_29 (by decide) ?_
      refine lv_iload_n hx hb dX5_get_31 rfl (lv_at hl 1 rfl) ?_
      refine lv_imul hx hb dX5_get_32 ?_
      refine lv_iload_n hx hb dX5_get_33 rfl (lv_at hl 2 rfl) ?_
      refine lv_iadd hx hb dX5_get_34 ?_
      obtain ⟨g6, h⟩ := stG h
      refine al_m13 F hw g6 dX5_get_35 ?_
      refine lv_goto (tgt := 42) hx hb dX5_get_36 (by decide) ?_
      obtain rfl := Option.some.inj h
      exact hE H locs _ ls hw dX5_get_42
end
theorem dX5_film_0 : decode cX5_film 0 = .ok (.iload_n 1, 1) := by decide +kernel
theorem dX5_film_1 : decode cX5_film 1 = .ok (.invokestatic 252, 3) := by decide +kernel
theorem dX5_film_4 : decode cX5_film 4 = .ok (.ifCond .eq 10, 3) := by decide +kernel
theorem dX5_film_7 : decode cX5_film 7 = .ok (.iload_n 2, 1) := by decide +kernel
theorem dX5_film_8 : decode cX5_film 8 = .ok (.invokestatic 174, 3) := by decide +kernel
theorem dX5_film_11 : decode cX5_film 11 = .ok (.ifCond .ne 5, 3) := by decide +kernel
theorem dX5_film_14 : decode cX5_film 14 = .ok (.iconst (-1), 1) := by decide +kernel
theorem dX5_film_15 : decode cX5_film 15 = .ok (.ireturn, 1) := by decide +kernel
theorem dX5_film_16 : decode cX5_film 16 = .ok (.aload_n 0, 1) := by decide +kernel
theorem dX5_film_17 : decode cX5_film 17 = .ok (.iload_n 1, 1) := by decide +kernel
theorem dX5_film_18 : decode cX5_film 18 = .ok (.aload_n 0, 1) := by decide +kernel
theorem dX5_film_19 : decode cX5_film 19 = .ok (.getfield 66, 3) := by decide +kernel
theorem dX5_film_22 : decode cX5_film 22 = .ok (.invokevirtual 255, 3) := by decide +kernel
theorem dX5_film_25 : decode cX5_film 25 = .ok (.aload_n 0, 1) := by decide +kernel
theorem dX5_film_26 : decode cX5_film 26 = .ok (.getfield 18, 3) := by decide +kernel
theorem dX5_film_29 : decode cX5_film 29 = .ok (.bipush 12, 2) := by decide +kernel
theorem dX5_film_31 : decode cX5_film 31 = .ok (.iload_n 2, 1) := by decide +kernel
theorem dX5_film_32 : decode cX5_film 32 = .ok (.imul, 1) := by decide +kernel
theorem dX5_film_33 : decode cX5_film 33 = .ok (.aload_n 0, 1) := by decide +kernel
theorem dX5_film_34 : decode cX5_film 34 = .ok (.getfield 49, 3) := by decide +kernel
theorem dX5_film_37 : decode cX5_film 37 = .ok (.bipush 15, 2) := by decide +kernel
theorem dX5_film_39 : decode cX5_film 39 = .ok (.iload_n 1, 1) := by decide +kernel
theorem dX5_film_40 : decode cX5_film 40 = .ok (.imul, 1) := by decide +kernel
theorem dX5_film_41 : decode cX5_film 41 = .ok (.aload_n 0, 1) := by decide +kernel
theorem dX5_film_42 : decode cX5_film 42 = .ok (.getfield 66, 3) := by decide +kernel
theorem dX5_film_45 : decode cX5_film 45 = .ok (.invokestatic 132, 3) := by decide +kernel
theorem dX5_film_48 : decode cX5_film 48 = .ok (.aload_n 0, 1) := by decide +kernel
theorem dX5_film_49 : decode cX5_film 49 = .ok (.getfield 66, 3) := by decide +kernel
theorem dX5_film_52 : decode cX5_film 52 = .ok (.ireturn, 1) := by decide +kernel
section
variable {p : Program} {l : Launch} {e : Env} {s : State} {m : MethodId} {args : Array Value} {below : List Frame} {meth : Method} {c : Code} {Q : State → Prop} {G : GG} {A : Nat → Prop} {q : Nat → Nat} {fr : va_W}
def f_X5_film (ye : Int32) (wSh : Nat → Int64) (wLi : Nat → Int64) (bSi : Nat → Int32) (v1 : Int32) (v2 : Int32) : Option (Int32 × (Nat → Int64) × (Nat → Int32)) :=
  (f_X5_isList v1).bind fun z1 =>
  if z1 = 0 then
  some ((-1), wLi, bSi)
  else
  (f_X5_isShelf v2).bind fun z3 =>
  if z3 = 0 then
  some ((-1), wLi, bSi)
  else
  (f_X5_becomes wLi bSi v1 ye).bind fun z5 =>
  if cpk (12 * v2) (15 * v1) ye 48 45 then
  some (ye, (va_cpy wSh z5.1 (12 * v2).toNatClampNeg (15 * v1).toNatClampNeg ye.toNatClampNeg), z5.2)
  else none
set_option maxHeartbeats 4000000 in
set_option maxRecDepth 100000 in
theorem k_X5_film {l : Launch} {G : GG} {q : Nat → Nat} {fr : va_W}  {yp : Int32} {ye : Int32} {yg : Int32} {bPo : Nat → Int32} {bTb : Nat → Int32} {wSh : Nat → Int64} {wTe : Nat → Int64} {wNx : Nat → Int64} {bOs : Nat → Int32} {bOn : Nat → Int32} {yop : Int32} {bSo : Nat → Int32} {bNu : Nat → Int32} {ytr : Int32} {yiw : Int32} {wMa : Nat → Int64} {wPr : Nat → Int64} {bTp : Nat → Int32} {yln : Int32} {ypl : Int32} {yfa : Int32} {wLi : Nat → Int64} {bSi : Nat → Int32} {yhp : Int32} {yhe : Int32} {yhg : Int32} {wHs : Nat → Int64} {yhi : Int32} {v1 : Int32} {v2 : Int32} {z : Int32 × (Nat → Int64) × (Nat → Int32)}  (h : f_X5_film ye wSh wLi bSi v1 v2 = some z) : Ct l G yX5_film cX5_film 3 (some .int) 2 80 [.ref (q 0), .int v1, .int v2] (mW G q yp ye yg bPo bTb wSh wTe wNx bOs bOn yop bSo bNu ytr yiw wMa wPr bTp yln ypl yfa wLi bSi yhp yhe yhg wHs yhi ++ fr) (some (.int z.1)) (mW G q yp ye yg bPo bTb wSh wTe wNx bOs bOn yop bSo bNu ytr yiw wMa wPr bTp yln ypl yfa z.2.1 z.2.2 yhp yhe yhg wHs yhi ++ fr) := by
  refine Ct.of (by decide +kernel) (Nat.le_of_ble_eq_true rfl) trivial ?_
  intro p e s m args below meth c Q A ls F hw hA hE hl
  have hx := F.x
  have hb := F.b
  unfold f_X5_film at h
  obtain ⟨H, hH⟩ : ∃ H, H = s.heap := ⟨_, rfl⟩
  obtain ⟨locs, hlo⟩ : ∃ locs : List Loc, locs = [] := ⟨_, rfl⟩
  rw [← hH, ← hlo] at hw ⊢
  have hl : lv_has ls 3 [(0, .ref (q 0)), (1, .int v1), (2, .int v2)] := hl
  refine lv_iload_n hx hb dX5_film_0 rfl (lv_at hl 1 rfl) ?_
  obtain ⟨z1, hz1, h⟩ := stB h
  refine ctS (av := [.int v1]) (st0 := ([] : List Value)) (st1 := ([.int z1] : List Value)) F hw hA (k_X5_isList hz1) kl_5_252 kd_X5_isList rfl ⟨by decide, by decide⟩ hl.1 rfl (Nat.le_of_ble_eq_true rfl) dX5_film_1 rfl (fun H locs hw => ?_)
  refine lv_if_eq (tgt := 14) hx hb dX5_film_4 (by decide) (fun c2 => ?_) (fun c2 => ?_)
  · replace h := stT c2 h
    refine lv_iconst (v := -1) hx hb dX5_film_14 (by decide) ?_
    obtain rfl := Option.some.inj h
    exact hE H locs _ ls hw dX5_film_15
  · replace h := stF c2 h
    refine lv_iload_n hx hb dX5_film_7 rfl (lv_at hl 2 rfl) ?_
    obtain ⟨z3, hz3, h⟩ := stB h
    refine ctS (av := [.int v2]) (st0 := ([] : List Value)) (st1 := ([.int z3] : List Value)) F hw hA (k_X5_isShelf hz3) kl_5_174 kd_X5_isShelf rfl ⟨by decide, by decide⟩ hl.1 rfl (Nat.le_of_ble_eq_true rfl) dX5_film_8 rfl (fun H locs hw => ?_)
    refine lv_if_ne (tgt := 16) hx hb dX5_film_11 (by decide) (fun c4 => ?_) (fun c4 => ?_)
    · replace h := stF c4 h
      refine lv_aload_n hx hb dX5_film_16 rfl (lv_at hl 0 rfl) ?_
      refine lv_iload_n hx hb dX5_film_17 rfl (lv_at hl 1 rfl) ?_
      refine lv_aload_n hx hb dX5_film_18 rfl (lv_at hl 0 rfl) ?_
      refine gf_5_66 F hw dX5_film_19 ?_
      obtain ⟨z5, hz5, h⟩ := stB h
      refine ctV (av := [.int v1, .int ye]) (st0 := ([] : List Value)) (st1 := ([] : List Value)) F hw hA (k_X5_becomes hz5) kl_5_255 kd_X5_becomes rfl ⟨by decide, by decide⟩ 0 rfl rfl hl.1 rfl (Nat.le_of_ble_eq_true rfl) dX5_film_22 rfl (fun H locs hw => ?_)
      refine lv_aload_n hx hb dX5_film_25 rfl (lv_at hl 0 rfl) ?_
      refine gf_5_18 F hw dX5_film_26 ?_
      refine lv_bipush (v := 12) hx hb dX5_film_29 (by decide) ?_
      refine lv_iload_n hx hb dX5_film_31 rfl (lv_at hl 2 rfl) ?_
      refine lv_imul hx hb dX5_film_32 ?_
      refine lv_aload_n hx hb dX5_film_33 rfl (lv_at hl 0 rfl) ?_
      refine gf_5_49 F hw dX5_film_34 ?_
      refine lv_bipush (v := 15) hx hb dX5_film_37 (by decide) ?_
      refine lv_iload_n hx hb dX5_film_39 rfl (lv_at hl 1 rfl) ?_
      refine lv_imul hx hb dX5_film_40 ?_
      refine lv_aload_n hx hb dX5_film_41 rfl (lv_at hl 0 rfl) ?_
      refine gf_5_66 F hw dX5_film_42 ?_
      obtain ⟨g6, h⟩ := stG h
      refine va_copyl F.x F.b (F.ml.trans hl.1.symm) F.ow (F.ts _ kac1) (F.ts _ kac2) (F.ts _ kac3) (F.ts _ kac4) hw.1 hw.2.1 hw.2.2.1 hw.2.2.2 3 13 2 2 (f := wSh) (g := z5.1) (n0 := 48) (n1 := 45) (ty := .long) rfl rfl rfl rfl rfl (cpk1 g6) (cpk2 g6) (cpk3 g6) (cpk4 g6) (cpk5 g6) (fun _ _ => rfl) (by decide) (by decide) dX5_film_45 (fun H locs hP hD hS => ?_)
      have hw : Wd G s A (mW G q yp ye yg bPo bTb wSh wTe wNx bOs bOn yop bSo bNu ytr yiw wMa wPr bTp yln ypl yfa (va_cpy wSh z5.1 (12 * v2).toNatClampNeg (15 * v1).toNatClampNeg ye.toNatClampNeg) z5.2 yhp yhe yhg wHs yhi ++ fr) H locs := ⟨hw.1, hP, hD, hS⟩
      refine lv_aload_n hx hb dX5_film_48 rfl (lv_at hl 0 rfl) ?_
      refine gf_5_66 F hw dX5_film_49 ?_
      obtain rfl := Option.some.inj h
      exact hE H locs _ ls hw dX5_film_52
    · replace h := stT c4 h
      refine lv_iconst (v := -1) hx hb dX5_film_14 (by decide) ?_
      obtain rfl := Option.some.inj h
      exact hE H locs _ ls hw dX5_film_15
end
theorem dX5_judge_0 : decode cX5_judge 0 = .ok (.iload_n 1, 1) := by decide +kernel
theorem dX5_judge_1 : decode cX5_judge 1 = .ok (.invokestatic 252, 3) := by decide +kernel
theorem dX5_judge_4 : decode cX5_judge 4 = .ok (.ifCond .eq 11, 3) := by decide +kernel
theorem dX5_judge_7 : decode cX5_judge 7 = .ok (.aload_n 0, 1) := by decide +kernel
theorem dX5_judge_8 : decode cX5_judge 8 = .ok (.iload_n 2, 1) := by decide +kernel
theorem dX5_judge_9 : decode cX5_judge 9 = .ok (.invokevirtual 114, 3) := by decide +kernel
theorem dX5_judge_12 : decode cX5_judge 12 = .ok (.ifCond .ne 5, 3) := by decide +kernel
theorem dX5_judge_15 : decode cX5_judge 15 = .ok (.iconst (-1), 1) := by decide +kernel
theorem dX5_judge_16 : decode cX5_judge 16 = .ok (.ireturn, 1) := by decide +kernel
theorem dX5_judge_17 : decode cX5_judge 17 = .ok (.aload_n 0, 1) := by decide +kernel
theorem dX5_judge_18 : decode cX5_judge 18 = .ok (.getfield 52, 3) := by decide +kernel
theorem dX5_judge_21 : decode cX5_judge 21 = .ok (.iload_n 1, 1) := by decide +kernel
theorem dX5_judge_22 : decode cX5_judge 22 = .ok (.iaload, 1) := by decide +kernel
theorem dX5_judge_23 : decode cX5_judge 23 = .ok (.iconst (-1), 1) := by decide +kernel
theorem dX5_judge_24 : decode cX5_judge 24 = .ok (.if_icmp .ne 6, 3) := by decide +kernel
theorem dX5_judge_27 : decode cX5_judge 27 = .ok (.bipush (-11), 2) := by decide +kernel
theorem dX5_judge_29 : decode cX5_judge 29 = .ok (.ireturn, 1) := by decide +kernel
theorem dX5_judge_30 : decode cX5_judge 30 = .ok (.iconst 0, 1) := by decide +kernel
theorem dX5_judge_31 : decode cX5_judge 31 = .ok (.istore_n 3, 1) := by decide +kernel
theorem dX5_judge_32 : decode cX5_judge 32 = .ok (.iload_n 3, 1) := by decide +kernel
theorem dX5_judge_33 : decode cX5_judge 33 = .ok (.aload_n 0, 1) := by decide +kernel
theorem dX5_judge_34 : decode cX5_judge 34 = .ok (.getfield 52, 3) := by decide +kernel
theorem dX5_judge_37 : decode cX5_judge 37 = .ok (.iload_n 1, 1) := by decide +kernel
theorem dX5_judge_38 : decode cX5_judge 38 = .ok (.iaload, 1) := by decide +kernel
theorem dX5_judge_39 : decode cX5_judge 39 = .ok (.if_icmp .ge 41, 3) := by decide +kernel
theorem dX5_judge_42 : decode cX5_judge 42 = .ok (.iload_n 3, 1) := by decide +kernel
theorem dX5_judge_43 : decode cX5_judge 43 = .ok (.aload_n 0, 1) := by decide +kernel
theorem dX5_judge_44 : decode cX5_judge 44 = .ok (.getfield 66, 3) := by decide +kernel
theorem dX5_judge_47 : decode cX5_judge 47 = .ok (.if_icmp .ge 25, 3) := by decide +kernel
theorem dX5_judge_50 : decode cX5_judge 50 = .ok (.aload_n 0, 1) := by decide +kernel
theorem dX5_judge_51 : decode cX5_judge 51 = .ok (.getfield 49, 3) := by decide +kernel
theorem dX5_judge_54 : decode cX5_judge 54 = .ok (.bipush 15, 2) := by decide +kernel
theorem dX5_judge_56 : decode cX5_judge 56 = .ok (.iload_n 1, 1) := by decide +kernel
theorem dX5_judge_57 : decode cX5_judge 57 = .ok (.imul, 1) := by decide +kernel
theorem dX5_judge_58 : decode cX5_judge 58 = .ok (.iload_n 3, 1) := by decide +kernel
theorem dX5_judge_59 : decode cX5_judge 59 = .ok (.iadd, 1) := by decide +kernel
theorem dX5_judge_60 : decode cX5_judge 60 = .ok (.laload, 1) := by decide +kernel
theorem dX5_judge_61 : decode cX5_judge 61 = .ok (.aload_n 0, 1) := by decide +kernel
theorem dX5_judge_62 : decode cX5_judge 62 = .ok (.iload_n 2, 1) := by decide +kernel
theorem dX5_judge_63 : decode cX5_judge 63 = .ok (.iload_n 3, 1) := by decide +kernel
theorem dX5_judge_64 : decode cX5_judge 64 = .ok (.invokevirtual 117, 3) := by decide +kernel
theorem dX5_judge_67 : decode cX5_judge 67 = .ok (.i2l, 1) := by decide +kernel
theorem dX5_judge_68 : decode cX5_judge 68 = .ok (.lcmp, 1) := by decide +kernel
theorem dX5_judge_69 : decode cX5_judge 69 = .ok (.ifCond .eq 5, 3) := by decide +kernel
theorem dX5_judge_72 : decode cX5_judge 72 = .ok (.iload_n 3, 1) := by decide +kernel
theorem dX5_judge_73 : decode cX5_judge 73 = .ok (.ireturn, 1) := by decide +kernel
theorem dX5_judge_74 : decode cX5_judge 74 = .ok (.iinc 3 1, 3) := by decide +kernel
theorem dX5_judge_77 : decode cX5_judge 77 = .ok (.goto (-45), 3) := by decide +kernel
theorem dX5_judge_80 : decode cX5_judge 80 = .ok (.aload_n 0, 1) := by decide +kernel
theorem dX5_judge_81 : decode cX5_judge 81 = .ok (.getfield 52, 3) := by decide +kernel
theorem dX5_judge_84 : decode cX5_judge 84 = .ok (.iload_n 1, 1) := by decide +kernel
theorem dX5_judge_85 : decode cX5_judge 85 = .ok (.iaload, 1) := by decide +kernel
theorem dX5_judge_86 : decode cX5_judge 86 = .ok (.aload_n 0, 1) := by decide +kernel
theorem dX5_judge_87 : decode cX5_judge 87 = .ok (.getfield 66, 3) := by decide +kernel
theorem dX5_judge_90 : decode cX5_judge 90 = .ok (.if_icmp .ge 15, 3) := by decide +kernel
theorem dX5_judge_93 : decode cX5_judge 93 = .ok (.bipush 100, 2) := by decide +kernel
theorem dX5_judge_95 : decode cX5_judge 95 = .ok (.aload_n 0, 1) := by decide +kernel
theorem dX5_judge_96 : decode cX5_judge 96 = .ok (.getfield 52, 3) := by decide +kernel
theorem dX5_judge_99 : decode cX5_judge 99 = .ok (.iload_n 1, 1) := by decide +kernel
theorem dX5_judge_100 : decode cX5_judge 100 = .ok (.iaload, 1) := by decide +kernel
theorem dX5_judge_101 : decode cX5_judge 101 = .ok (.iadd, 1) := by decide +kernel
theorem dX5_judge_102 : decode cX5_judge 102 = .ok (.goto 5, 3) := by decide +kernel
theorem dX5_judge_105 : decode cX5_judge 105 = .ok (.bipush (-5), 2) := by decide +kernel
theorem dX5_judge_107 : decode cX5_judge 107 = .ok (.ireturn, 1) := by decide +kernel
section
variable {p : Program} {l : Launch} {e : Env} {s : State} {m : MethodId} {args : Array Value} {below : List Frame} {meth : Method} {c : Code} {Q : State → Prop} {G : GG} {A : Nat → Prop} {q : Nat → Nat} {fr : va_W}
def f_X5_judge_L32 (yp : Int32) (ye : Int32) (bPo : Nat → Int32) (wLi : Nat → Int64) (bSi : Nat → Int32) (v1 : Int32) (v2 : Int32) : Nat → Int32 → Option (Int32)
  | 0, _ => none
  | fu + 1, v3 =>
    if inb v1 3 then
    if (bSi v1.toNatClampNeg) ≤ v3 then
    if inb v1 3 then
    if ye ≤ (bSi v1.toNatClampNeg) then
    some (-5)
    else
    if inb v1 3 then
    some (100 + (bSi v1.toNatClampNeg))
    else none
    else none
    else
    if ye ≤ v3 then
    some v3
    else
    if inb ((15 * v1) + v3) 45 then
    (f_X5_besideOf yp ye bPo v2 v3).bind fun z8 =>
    if (lg_cmp (wLi ((15 * v1) + v3).toNatClampNeg) z8.toInt64) = 0 then
    f_X5_judge_L32 yp ye bPo wLi bSi v1 v2 fu (v3 + 1)
    else
    some v3
    else none
    else none
set_option maxHeartbeats 4000000 in
set_option maxRecDepth 100000 in
theorem w_X5_judge_L32  {yp : Int32} {ye : Int32} {yg : Int32} {bPo : Nat → Int32} {bTb : Nat → Int32} {wSh : Nat → Int64} {wTe : Nat → Int64} {wNx : Nat → Int64} {bOs : Nat → Int32} {bOn : Nat → Int32} {yop : Int32} {bSo : Nat → Int32} {bNu : Nat → Int32} {ytr : Int32} {yiw : Int32} {wMa : Nat → Int64} {wPr : Nat → Int64} {bTp : Nat → Int32} {yln : Int32} {ypl : Int32} {yfa : Int32} {wLi : Nat → Int64} {bSi : Nat → Int32} {yhp : Int32} {yhe : Int32} {yhg : Int32} {wHs : Nat → Int64} {yhi : Int32} {v1 : Int32} {v2 : Int32}  (F : Fx p s m args meth c cX5_judge 4 RX5 (some .int)) (hA : ∀ q, s.heap.size ≤ q → A q)   : ∀ (fu : Nat) (v3 : Int32) (z : Int32), f_X5_judge_L32 yp ye bPo wLi bSi v1 v2 fu v3 = some z → Ends p l e (rmOf 2 46) s m args below meth c Q cX5_judge G A (some .int) (some (.int z)) (mW G q yp ye yg bPo bTb wSh wTe wNx bOs bOn yop bSo bNu ytr yiw wMa wPr bTp yln ypl yfa wLi bSi yhp yhe yhg wHs yhi ++ fr) → ∀ (H : Heap) (locs : List Loc) (ls : Array Slot), Wd G s A (mW G q yp ye yg bPo bTb wSh wTe wNx bOs bOn yop bSo bNu ytr yiw wMa wPr bTp yln ypl yfa wLi bSi yhp yhe yhg wHs yhi ++ fr) H locs → lv_has ls 4 [(0, .ref (q 0)), (1, .int v1), (2, .int v2), (3, .int v3)] → W p l e (rmOf 2 46) s m args below meth c H locs 0 0 Q (F0 m 32 ls []) := by
  have hx := F.x
  have hb := F.b
  intro fu
  induction fu with
  | zero =>
    intro v3 z h
    cases (h : none = some z)
  | succ fu ih =>
    intro v3 z h hE H locs ls hw hl
    rw [f_X5_judge_L32] at h
    refine lv_iload_n hx hb dX5_judge_32 rfl (lv_at hl 3 rfl) ?_
    refine lv_aload_n hx hb dX5_judge_33 rfl (lv_at hl 0 rfl) ?_
    refine gf_5_52 F hw dX5_judge_34 ?_
    refine lv_iload_n hx hb dX5_judge_37 rfl (lv_at hl 1 rfl) ?_
    obtain ⟨g1, h⟩ := stG h
    refine al_m14 F hw g1 dX5_judge_38 ?_
    refine lv_icmp_ge (tgt := 80) hx hb dX5_judge_39 (by decide) (fun c2 => ?_) (fun c2 => ?_)
    · replace h := stT c2 h
      refine lv_aload_n hx hb dX5_judge_80 rfl (lv_at hl 0 rfl) ?_
      refine gf_5_52 F hw dX5_judge_81 ?_
      refine lv_iload_n hx hb dX5_judge_84 rfl (lv_at hl 1 rfl) ?_
      obtain ⟨g3, h⟩ := stG h
      refine al_m14 F hw g3 dX5_judge_85 ?_
      refine lv_aload_n hx hb dX5_judge_86 rfl (lv_at hl 0 rfl) ?_
      refine gf_5_66 F hw dX5_judge_87 ?_
      refine lv_icmp_ge (tgt := 105) hx hb dX5_judge_90 (by decide) (fun c4 => ?_) (fun c4 => ?_)
      · replace h := stT c4 h
        refine lv_bipush (v := -5) hx hb dX5_judge_105 (by decide) ?_
        obtain rfl := Option.some.inj h
        exact hE H locs _ ls hw dX5_judge_107
      · replace h := stF c4 h
        refine lv_bipush (v := 100) hx hb dX5_judge_93 (by decide) ?_
        refine lv_aload_n hx hb dX5_judge_95 rfl (lv_at hl 0 rfl) ?_
        refine gf_5_52 F hw dX5_judge_96 ?_
        refine lv_iload_n hx hb dX5_judge_99 rfl (lv_at hl 1 rfl) ?_
        obtain ⟨g5, h⟩ := stG h
        refine al_m14 F hw g5 dX5_judge_100 ?_
        refine lv_iadd hx hb dX5_judge_101 ?_
        refine lv_goto (tgt := 107) hx hb dX5_judge_102 (by decide) ?_
        obtain rfl := Option.some.inj h
        exact hE H locs _ ls hw dX5_judge_107
    · replace h := stF c2 h
      refine lv_iload_n hx hb dX5_judge_42 rfl (lv_at hl 3 rfl) ?_
      refine lv_aload_n hx hb dX5_judge_43 rfl (lv_at hl 0 rfl) ?_
      refine gf_5_66 F hw dX5_judge_44 ?_
      refine lv_icmp_ge (tgt := 72) hx hb dX5_judge_47 (by decide) (fun c6 => ?_) (fun c6 => ?_)
      · replace h := stT c6 h
        refine lv_iload_n hx hb dX5_judge_72 rfl (lv_at hl 3 rfl) ?_
        obtain rfl := Option.some.inj h
        exact hE H locs _ ls hw dX5_judge_73
      · replace h := stF c6 h
        refine lv_aload_n hx hb dX5_judge_50 rfl (lv_at hl 0 rfl) ?_
        refine gf_5_49 F hw dX5_judge_51 ?_
        refine lv_bipush (v := 15) hx hb dX5_judge_54 (by decide) ?_
        refine lv_iload_n hx hb dX5_judge_56 rfl (lv_at hl 1 rfl) ?_
        refine lv_imul hx hb dX5_judge_57 ?_
        refine lv_iload_n hx hb dX5_judge_58 rfl (lv_at hl 3 rfl) ?_
        refine lv_iadd hx hb dX5_judge_59 ?_
        obtain ⟨g7, h⟩ := stG h
        refine al_m13 F hw g7 dX5_judge_60 ?_
        refine lv_aload_n hx hb dX5_judge_61 rfl (lv_at hl 0 rfl) ?_
        refine lv_iload_n hx hb dX5_judge_62 rfl (lv_at hl 2 rfl) ?_
        refine lv_iload_n hx hb dX5_judge_63 rfl (lv_at hl 3 rfl) ?_
        obtain ⟨z8, hz8, h⟩ := stB h
        refine ctV (av := [.int v2, .int v3]) (st0 := ([.long (wLi ((15 * v1) + v3).toNatClampNeg)] : List Value)) (st1 := ([.int z8, .long (wLi ((15 * v1) + v3).toNatClampNeg)] : List Value)) F hw hA (k_X5_besideOf hz8) kl_5_117 kd_X5_besideOf rfl ⟨by decide, by decide⟩ 0 rfl rfl hl.1 rfl (Nat.le_of_ble_eq_true rfl) dX5_judge_64 rfl (fun H locs hw => ?_)
        refine lv_i2l (v := z8.toInt64) hx hb dX5_judge_67 rfl ?_
        refine W.lcmp hx hb dX5_judge_68 ?_
        refine lv_if_eq (tgt := 74) hx hb dX5_judge_69 (by decide) (fun c9 => ?_) (fun c9 => ?_)
        · replace h := stT c9 h
          refine lv_iinc (v := (v3 + 1)) (lv' := [(3, .int (v3 + 1)), (0, .ref (q 0)), (1, .int v1), (2, .int v2)]) hx hb dX5_judge_74 hl (k := 3) rfl rfl (by decide) rfl (fun ls hl => ?_)
          refine lv_goto (tgt := 32) hx hb dX5_judge_77 (by decide) ?_
          exact ih _ z h hE H locs ls hw (lv_sub hl [1, 2, 3, 0] rfl)
        · replace h := stF c9 h
          refine lv_iload_n hx hb dX5_judge_72 rfl (lv_at hl 3 rfl) ?_
          obtain rfl := Option.some.inj h
          exact hE H locs _ ls hw dX5_judge_73
def f_X5_judge (yp : Int32) (ye : Int32) (bPo : Nat → Int32) (wLi : Nat → Int64) (bSi : Nat → Int32) (v1 : Int32) (v2 : Int32) : Option (Int32) :=
  (f_X5_isList v1).bind fun z1 =>
  if z1 = 0 then
  some (-1)
  else
  (f_X5_isClass ye v2).bind fun z3 =>
  if z3 = 0 then
  some (-1)
  else
  if inb v1 3 then
  if (bSi v1.toNatClampNeg) = (-1) then
  some (-11)
  else
  f_X5_judge_L32 yp ye bPo wLi bSi v1 v2 FU 0
  else none
set_option maxHeartbeats 4000000 in
set_option maxRecDepth 100000 in
theorem k_X5_judge {l : Launch} {G : GG} {q : Nat → Nat} {fr : va_W}  {yp : Int32} {ye : Int32} {yg : Int32} {bPo : Nat → Int32} {bTb : Nat → Int32} {wSh : Nat → Int64} {wTe : Nat → Int64} {wNx : Nat → Int64} {bOs : Nat → Int32} {bOn : Nat → Int32} {yop : Int32} {bSo : Nat → Int32} {bNu : Nat → Int32} {ytr : Int32} {yiw : Int32} {wMa : Nat → Int64} {wPr : Nat → Int64} {bTp : Nat → Int32} {yln : Int32} {ypl : Int32} {yfa : Int32} {wLi : Nat → Int64} {bSi : Nat → Int32} {yhp : Int32} {yhe : Int32} {yhg : Int32} {wHs : Nat → Int64} {yhi : Int32} {v1 : Int32} {v2 : Int32} {z : Int32}  (h : f_X5_judge yp ye bPo wLi bSi v1 v2 = some z) : Ct l G yX5_judge cX5_judge 4 (some .int) 2 46 [.ref (q 0), .int v1, .int v2] (mW G q yp ye yg bPo bTb wSh wTe wNx bOs bOn yop bSo bNu ytr yiw wMa wPr bTp yln ypl yfa wLi bSi yhp yhe yhg wHs yhi ++ fr) (some (.int z)) (mW G q yp ye yg bPo bTb wSh wTe wNx bOs bOn yop bSo bNu ytr yiw wMa wPr bTp yln ypl yfa wLi bSi yhp yhe yhg wHs yhi ++ fr) := by
  refine Ct.of (by decide +kernel) (Nat.le_of_ble_eq_true rfl) trivial ?_
  intro p e s m args below meth c Q A ls F hw hA hE hl
  have hx := F.x
  have hb := F.b
  unfold f_X5_judge at h
  obtain ⟨H, hH⟩ : ∃ H, H = s.heap := ⟨_, rfl⟩
  obtain ⟨locs, hlo⟩ : ∃ locs : List Loc, locs = [] := ⟨_, rfl⟩
  rw [← hH, ← hlo] at hw ⊢
  have hl : lv_has ls 4 [(0, .ref (q 0)), (1, .int v1), (2, .int v2)] := hl
  refine lv_iload_n hx hb dX5_judge_0 rfl (lv_at hl 1 rfl) ?_
  obtain ⟨z1, hz1, h⟩ := stB h
  refine ctS (av := [.int v1]) (st0 := ([] : List Value)) (st1 := ([.int z1] : List Value)) F hw hA (k_X5_isList hz1) kl_5_252 kd_X5_isList rfl ⟨by decide, by decide⟩ hl.1 rfl (Nat.le_of_ble_eq_true rfl) dX5_judge_1 rfl (fun H locs hw => ?_)
  refine lv_if_eq (tgt := 15) hx hb dX5_judge_4 (by decide) (fun c2 => ?_) (fun c2 => ?_)
  · replace h := stT c2 h
    refine lv_iconst (v := -1) hx hb dX5_judge_15 (by decide) ?_
    obtain rfl := Option.some.inj h
    exact hE H locs _ ls hw dX5_judge_16
  · replace h := stF c2 h
    refine lv_aload_n hx hb dX5_judge_7 rfl (lv_at hl 0 rfl) ?_
    refine lv_iload_n hx hb dX5_judge_8 rfl (lv_at hl 2 rfl) ?_
    obtain ⟨z3, hz3, h⟩ := stB h
    refine ctV (av := [.int v2]) (st0 := ([] : List Value)) (st1 := ([.int z3] : List Value)) F hw hA (k_X5_isClass hz3) kl_5_114 kd_X5_isClass rfl ⟨by decide, by decide⟩ 0 rfl rfl hl.1 rfl (Nat.le_of_ble_eq_true rfl) dX5_judge_9 rfl (fun H locs hw => ?_)
    refine lv_if_ne (tgt := 17) hx hb dX5_judge_12 (by decide) (fun c4 => ?_) (fun c4 => ?_)
    · replace h := stF c4 h
      refine lv_aload_n hx hb dX5_judge_17 rfl (lv_at hl 0 rfl) ?_
      refine gf_5_52 F hw dX5_judge_18 ?_
      refine lv_iload_n hx hb dX5_judge_21 rfl (lv_at hl 1 rfl) ?_
      obtain ⟨g5, h⟩ := stG h
      refine al_m14 F hw g5 dX5_judge_22 ?_
      refine lv_iconst (v := -1) hx hb dX5_judge_23 (by decide) ?_
      refine lv_icmp_ne (tgt := 30) hx hb dX5_judge_24 (by decide) (fun c6 => ?_) (fun c6 => ?_)
      · replace h := stF c6 h
        refine lv_iconst (v := 0) hx hb dX5_judge_30 (by decide) ?_
        refine lv_istore_n (lv' := [(3, .int 0), (0, .ref (q 0)), (1, .int v1), (2, .int v2)]) hx hb dX5_judge_31 rfl hl (by decide) rfl (fun ls hl => ?_)
        exact w_X5_judge_L32 F hA  FU _ z h hE H locs ls hw (lv_sub hl [1, 2, 3, 0] rfl)
      · replace h := stT c6 h
        refine lv_bipush (v := -11) hx hb dX5_judge_27 (by decide) ?_
        obtain rfl := Option.some.inj h
        exact hE H locs _ ls hw dX5_judge_29
    · replace h := stT c4 h
      refine lv_iconst (v := -1) hx hb dX5_judge_15 (by decide) ?_
      obtain rfl := Option.some.inj h
      exact hE H locs _ ls hw dX5_judge_16
end
theorem dX5_image_0 : decode cX5_image 0 = .ok (.aload_n 0, 1) := by decide +kernel
theorem dX5_image_1 : decode cX5_image 1 = .ok (.aload_n 0, 1) := by decide +kernel
theorem dX5_image_2 : decode cX5_image 2 = .ok (.getfield 62, 3) := by decide +kernel
theorem dX5_image_5 : decode cX5_image 5 = .ok (.putfield 258, 3) := by decide +kernel
theorem dX5_image_8 : decode cX5_image 8 = .ok (.aload_n 0, 1) := by decide +kernel
theorem dX5_image_9 : decode cX5_image 9 = .ok (.aload_n 0, 1) := by decide +kernel
theorem dX5_image_10 : decode cX5_image 10 = .ok (.getfield 66, 3) := by decide +kernel
theorem dX5_image_13 : decode cX5_image 13 = .ok (.putfield 261, 3) := by decide +kernel
theorem dX5_image_16 : decode cX5_image 16 = .ok (.aload_n 0, 1) := by decide +kernel
theorem dX5_image_17 : decode cX5_image 17 = .ok (.aload_n 0, 1) := by decide +kernel
theorem dX5_image_18 : decode cX5_image 18 = .ok (.getfield 69, 3) := by decide +kernel
theorem dX5_image_21 : decode cX5_image 21 = .ok (.putfield 264, 3) := by decide +kernel
theorem dX5_image_24 : decode cX5_image 24 = .ok (.aload_n 0, 1) := by decide +kernel
theorem dX5_image_25 : decode cX5_image 25 = .ok (.getfield 18, 3) := by decide +kernel
theorem dX5_image_28 : decode cX5_image 28 = .ok (.iconst 0, 1) := by decide +kernel
theorem dX5_image_29 : decode cX5_image 29 = .ok (.aload_n 0, 1) := by decide +kernel
theorem dX5_image_30 : decode cX5_image 30 = .ok (.getfield 55, 3) := by decide +kernel
theorem dX5_image_33 : decode cX5_image 33 = .ok (.iconst 0, 1) := by decide +kernel
theorem dX5_image_34 : decode cX5_image 34 = .ok (.bipush 48, 2) := by decide +kernel
theorem dX5_image_36 : decode cX5_image 36 = .ok (.invokestatic 132, 3) := by decide +kernel
theorem dX5_image_39 : decode cX5_image 39 = .ok (.aload_n 0, 1) := by decide +kernel
theorem dX5_image_40 : decode cX5_image 40 = .ok (.iconst 1, 1) := by decide +kernel
theorem dX5_image_41 : decode cX5_image 41 = .ok (.putfield 267, 3) := by decide +kernel
theorem dX5_image_44 : decode cX5_image 44 = .ok (.aload_n 0, 1) := by decide +kernel
theorem dX5_image_45 : decode cX5_image 45 = .ok (.getfield 62, 3) := by decide +kernel
theorem dX5_image_48 : decode cX5_image 48 = .ok (.ireturn, 1) := by decide +kernel
section
variable {p : Program} {l : Launch} {e : Env} {s : State} {m : MethodId} {args : Array Value} {below : List Frame} {meth : Method} {c : Code} {Q : State → Prop} {G : GG} {A : Nat → Prop} {q : Nat → Nat} {fr : va_W}
def f_X5_image (yp : Int32) (ye : Int32) (yg : Int32) (wSh : Nat → Int64) (yhp : Int32) (yhe : Int32) (yhg : Int32) (wHs : Nat → Int64) (yhi : Int32) : Option (Int32 × Int32 × Int32 × Int32 × (Nat → Int64) × Int32) :=
  if cpk 0 0 48 48 48 then
  some (yp, yp, ye, yg, (va_cpy wSh wHs (0 : Int32).toNatClampNeg (0 : Int32).toNatClampNeg (48 : Int32).toNatClampNeg), 1)
  else none
set_option maxHeartbeats 4000000 in
set_option maxRecDepth 100000 in
theorem k_X5_image {l : Launch} {G : GG} {q : Nat → Nat} {fr : va_W}  {yp : Int32} {ye : Int32} {yg : Int32} {bPo : Nat → Int32} {bTb : Nat → Int32} {wSh : Nat → Int64} {wTe : Nat → Int64} {wNx : Nat → Int64} {bOs : Nat → Int32} {bOn : Nat → Int32} {yop : Int32} {bSo : Nat → Int32} {bNu : Nat → Int32} {ytr : Int32} {yiw : Int32} {wMa : Nat → Int64} {wPr : Nat → Int64} {bTp : Nat → Int32} {yln : Int32} {ypl : Int32} {yfa : Int32} {wLi : Nat → Int64} {bSi : Nat → Int32} {yhp : Int32} {yhe : Int32} {yhg : Int32} {wHs : Nat → Int64} {yhi : Int32}  {z : Int32 × Int32 × Int32 × Int32 × (Nat → Int64) × Int32}  (h : f_X5_image yp ye yg wSh yhp yhe yhg wHs yhi = some z) : Ct l G yX5_image cX5_image 1 (some .int) 1 80 [.ref (q 0)] (mW G q yp ye yg bPo bTb wSh wTe wNx bOs bOn yop bSo bNu ytr yiw wMa wPr bTp yln ypl yfa wLi bSi yhp yhe yhg wHs yhi ++ fr) (some (.int z.1)) (mW G q yp ye yg bPo bTb wSh wTe wNx bOs bOn yop bSo bNu ytr yiw wMa wPr bTp yln ypl yfa wLi bSi z.2.1 z.2.2.1 z.2.2.2.1 z.2.2.2.2.1 z.2.2.2.2.2 ++ fr) := by
  refine Ct.of (by decide +kernel) (Nat.le_of_ble_eq_true rfl) trivial ?_
  intro p e s m args below meth c Q A ls F hw hA hE hl
  have hx := F.x
  have hb := F.b
  unfold f_X5_image at h
  obtain ⟨H, hH⟩ : ∃ H, H = s.heap := ⟨_, rfl⟩
  obtain ⟨locs, hlo⟩ : ∃ locs : List Loc, locs = [] := ⟨_, rfl⟩
  rw [← hH, ← hlo] at hw ⊢
  have hl : lv_has ls 1 [(0, .ref (q 0))] := hl
  refine lv_aload_n hx hb dX5_image_0 rfl (lv_at hl 0 rfl) ?_
  refine lv_aload_n hx hb dX5_image_1 rfl (lv_at hl 0 rfl) ?_
  refine gf_5_62 F hw dX5_image_2 ?_
  refine pf_5_258 F hw dX5_image_5 (fun H locs hw => ?_)
  refine lv_aload_n hx hb dX5_image_8 rfl (lv_at hl 0 rfl) ?_
  refine lv_aload_n hx hb dX5_image_9 rfl (lv_at hl 0 rfl) ?_
  refine gf_5_66 F hw dX5_image_10 ?_
  refine pf_5_261 F hw dX5_image_13 (fun H locs hw => ?_)
  refine lv_aload_n hx hb dX5_image_16 rfl (lv_at hl 0 rfl) ?_
  refine lv_aload_n hx hb dX5_image_17 rfl (lv_at hl 0 rfl) ?_
  refine gf_5_69 F hw dX5_image_18 ?_
  refine pf_5_264 F hw dX5_image_21 (fun H locs hw => ?_)
  refine lv_aload_n hx hb dX5_image_24 rfl (lv_at hl 0 rfl) ?_
  refine gf_5_18 F hw dX5_image_25 ?_
  refine lv_iconst (v := 0) hx hb dX5_image_28 (by decide) ?_
  refine lv_aload_n hx hb dX5_image_29 rfl (lv_at hl 0 rfl) ?_
  refine gf_5_55 F hw dX5_image_30 ?_
  refine lv_iconst (v := 0) hx hb dX5_image_33 (by decide) ?_
  refine lv_bipush (v := 48) hx hb dX5_image_34 (by decide) ?_
  obtain ⟨g1, h⟩ := stG h
  refine va_copyl F.x F.b (F.ml.trans hl.1.symm) F.ow (F.ts _ kac1) (F.ts _ kac2) (F.ts _ kac3) (F.ts _ kac4) hw.1 hw.2.1 hw.2.2.1 hw.2.2.2 3 15 2 2 (f := wSh) (g := wHs) (n0 := 48) (n1 := 48) (ty := .long) rfl rfl rfl rfl rfl (cpk1 g1) (cpk2 g1) (cpk3 g1) (cpk4 g1) (cpk5 g1) (fun _ _ => rfl) (by decide) (by decide) dX5_image_36 (fun H locs hP hD hS => ?_)
  have hw : Wd G s A (mW G q yp ye yg bPo bTb wSh wTe wNx bOs bOn yop bSo bNu ytr yiw wMa wPr bTp yln ypl yfa wLi bSi yp ye yg (va_cpy wSh wHs (0 : Int32).toNatClampNeg (0 : Int32).toNatClampNeg (48 : Int32).toNatClampNeg) yhi ++ fr) H locs := ⟨hw.1, hP, hD, hS⟩
  refine lv_aload_n hx hb dX5_image_39 rfl (lv_at hl 0 rfl) ?_
  refine lv_iconst (v := 1) hx hb dX5_image_40 (by decide) ?_
  refine pf_5_267 (by decide) F hw dX5_image_41 (fun H locs hw => ?_)
  refine lv_aload_n hx hb dX5_image_44 rfl (lv_at hl 0 rfl) ?_
  refine gf_5_62 F hw dX5_image_45 ?_
  obtain rfl := Option.some.inj h
  exact hE H locs _ ls hw dX5_image_48
end
theorem dX5_undo_0 : decode cX5_undo 0 = .ok (.aload_n 0, 1) := by decide +kernel
theorem dX5_undo_1 : decode cX5_undo 1 = .ok (.getfield 267, 3) := by decide +kernel
theorem dX5_undo_4 : decode cX5_undo 4 = .ok (.ifCond .ne 6, 3) := by decide +kernel
theorem dX5_undo_7 : decode cX5_undo 7 = .ok (.bipush (-3), 2) := by decide +kernel
theorem dX5_undo_9 : decode cX5_undo 9 = .ok (.ireturn, 1) := by decide +kernel
theorem dX5_undo_10 : decode cX5_undo 10 = .ok (.aload_n 0, 1) := by decide +kernel
theorem dX5_undo_11 : decode cX5_undo 11 = .ok (.aload_n 0, 1) := by decide +kernel
theorem dX5_undo_12 : decode cX5_undo 12 = .ok (.getfield 258, 3) := by decide +kernel
theorem dX5_undo_15 : decode cX5_undo 15 = .ok (.putfield 62, 3) := by decide +kernel
theorem dX5_undo_18 : decode cX5_undo 18 = .ok (.aload_n 0, 1) := by decide +kernel
theorem dX5_undo_19 : decode cX5_undo 19 = .ok (.aload_n 0, 1) := by decide +kernel
theorem dX5_undo_20 : decode cX5_undo 20 = .ok (.getfield 261, 3) := by decide +kernel
theorem dX5_undo_23 : decode cX5_undo 23 = .ok (.putfield 66, 3) := by decide +kernel
theorem dX5_undo_26 : decode cX5_undo 26 = .ok (.aload_n 0, 1) := by decide +kernel
theorem dX5_undo_27 : decode cX5_undo 27 = .ok (.aload_n 0, 1) := by decide +kernel
theorem dX5_undo_28 : decode cX5_undo 28 = .ok (.getfield 264, 3) := by decide +kernel
theorem dX5_undo_31 : decode cX5_undo 31 = .ok (.putfield 69, 3) := by decide +kernel
theorem dX5_undo_34 : decode cX5_undo 34 = .ok (.aload_n 0, 1) := by decide +kernel
theorem dX5_undo_35 : decode cX5_undo 35 = .ok (.invokevirtual 76, 3) := by decide +kernel
theorem dX5_undo_38 : decode cX5_undo 38 = .ok (.aload_n 0, 1) := by decide +kernel
theorem dX5_undo_39 : decode cX5_undo 39 = .ok (.getfield 55, 3) := by decide +kernel
theorem dX5_undo_42 : decode cX5_undo 42 = .ok (.iconst 0, 1) := by decide +kernel
theorem dX5_undo_43 : decode cX5_undo 43 = .ok (.aload_n 0, 1) := by decide +kernel
theorem dX5_undo_44 : decode cX5_undo 44 = .ok (.getfield 18, 3) := by decide +kernel
theorem dX5_undo_47 : decode cX5_undo 47 = .ok (.iconst 0, 1) := by decide +kernel
theorem dX5_undo_48 : decode cX5_undo 48 = .ok (.bipush 48, 2) := by decide +kernel
theorem dX5_undo_50 : decode cX5_undo 50 = .ok (.invokestatic 132, 3) := by decide +kernel
theorem dX5_undo_53 : decode cX5_undo 53 = .ok (.aload_n 0, 1) := by decide +kernel
theorem dX5_undo_54 : decode cX5_undo 54 = .ok (.getfield 62, 3) := by decide +kernel
theorem dX5_undo_57 : decode cX5_undo 57 = .ok (.ireturn, 1) := by decide +kernel
section
variable {p : Program} {l : Launch} {e : Env} {s : State} {m : MethodId} {args : Array Value} {below : List Frame} {meth : Method} {c : Code} {Q : State → Prop} {G : GG} {A : Nat → Prop} {q : Nat → Nat} {fr : va_W}
def f_X5_undo (yp : Int32) (ye : Int32) (yg : Int32) (bPo : Nat → Int32) (bTb : Nat → Int32) (wSh : Nat → Int64) (yhp : Int32) (yhe : Int32) (yhg : Int32) (wHs : Nat → Int64) (yhi : Int32) : Option (Int32 × Int32 × Int32 × Int32 × (Nat → Int32) × (Nat → Int32) × (Nat → Int64)) :=
  if yhi = 0 then
  some ((-3), yp, ye, yg, bPo, bTb, wSh)
  else
  (f_X5_findsClasses yhp yhe yhg bPo bTb).bind fun z2 =>
  if cpk 0 0 48 48 48 then
  some (yhp, yhp, yhe, yhg, z2.1, z2.2, (va_cpy wHs wSh (0 : Int32).toNatClampNeg (0 : Int32).toNatClampNeg (48 : Int32).toNatClampNeg))
  else none
set_option maxHeartbeats 4000000 in
set_option maxRecDepth 100000 in
theorem k_X5_undo {l : Launch} {G : GG} {q : Nat → Nat} {fr : va_W}  {yp : Int32} {ye : Int32} {yg : Int32} {bPo : Nat → Int32} {bTb : Nat → Int32} {wSh : Nat → Int64} {wTe : Nat → Int64} {wNx : Nat → Int64} {bOs : Nat → Int32} {bOn : Nat → Int32} {yop : Int32} {bSo : Nat → Int32} {bNu : Nat → Int32} {ytr : Int32} {yiw : Int32} {wMa : Nat → Int64} {wPr : Nat → Int64} {bTp : Nat → Int32} {yln : Int32} {ypl : Int32} {yfa : Int32} {wLi : Nat → Int64} {bSi : Nat → Int32} {yhp : Int32} {yhe : Int32} {yhg : Int32} {wHs : Nat → Int64} {yhi : Int32}  {z : Int32 × Int32 × Int32 × Int32 × (Nat → Int32) × (Nat → Int32) × (Nat → Int64)}  (h : f_X5_undo yp ye yg bPo bTb wSh yhp yhe yhg wHs yhi = some z) : Ct l G yX5_undo cX5_undo 1 (some .int) 3 80 [.ref (q 0)] (mW G q yp ye yg bPo bTb wSh wTe wNx bOs bOn yop bSo bNu ytr yiw wMa wPr bTp yln ypl yfa wLi bSi yhp yhe yhg wHs yhi ++ fr) (some (.int z.1)) (mW G q z.2.1 z.2.2.1 z.2.2.2.1 z.2.2.2.2.1 z.2.2.2.2.2.1 z.2.2.2.2.2.2 wTe wNx bOs bOn yop bSo bNu ytr yiw wMa wPr bTp yln ypl yfa wLi bSi yhp yhe yhg wHs yhi ++ fr) := by
  refine Ct.of (by decide +kernel) (Nat.le_of_ble_eq_true rfl) trivial ?_
  intro p e s m args below meth c Q A ls F hw hA hE hl
  have hx := F.x
  have hb := F.b
  unfold f_X5_undo at h
  obtain ⟨H, hH⟩ : ∃ H, H = s.heap := ⟨_, rfl⟩
  obtain ⟨locs, hlo⟩ : ∃ locs : List Loc, locs = [] := ⟨_, rfl⟩
  rw [← hH, ← hlo] at hw ⊢
  have hl : lv_has ls 1 [(0, .ref (q 0))] := hl
  refine lv_aload_n hx hb dX5_undo_0 rfl (lv_at hl 0 rfl) ?_
  refine gf_5_267 F hw dX5_undo_1 ?_
  refine lv_if_ne (tgt := 10) hx hb dX5_undo_4 (by decide) (fun c1 => ?_) (fun c1 => ?_)
  · replace h := stF c1 h
    refine lv_aload_n hx hb dX5_undo_10 rfl (lv_at hl 0 rfl) ?_
    refine lv_aload_n hx hb dX5_undo_11 rfl (lv_at hl 0 rfl) ?_
    refine gf_5_258 F hw dX5_undo_12 ?_
    refine pf_5_62 F hw dX5_undo_15 (fun H locs hw => ?_)
    refine lv_aload_n hx hb dX5_undo_18 rfl (lv_at hl 0 rfl) ?_
    refine lv_aload_n hx hb dX5_undo_19 rfl (lv_at hl 0 rfl) ?_
    refine gf_5_261 F hw dX5_undo_20 ?_
    refine pf_5_66 F hw dX5_undo_23 (fun H locs hw => ?_)
    refine lv_aload_n hx hb dX5_undo_26 rfl (lv_at hl 0 rfl) ?_
    refine lv_aload_n hx hb dX5_undo_27 rfl (lv_at hl 0 rfl) ?_
    refine gf_5_264 F hw dX5_undo_28 ?_
    refine pf_5_69 F hw dX5_undo_31 (fun H locs hw => ?_)
    refine lv_aload_n hx hb dX5_undo_34 rfl (lv_at hl 0 rfl) ?_
    obtain ⟨z2, hz2, h⟩ := stB h
    refine ctV (av := []) (st0 := ([] : List Value)) (st1 := ([] : List Value)) F hw hA (k_X5_findsClasses hz2) kl_5_76 kd_X5_findsClasses rfl ⟨by decide, by decide⟩ 0 rfl rfl hl.1 rfl (Nat.le_of_ble_eq_true rfl) dX5_undo_35 rfl (fun H locs hw => ?_)
    refine lv_aload_n hx hb dX5_undo_38 rfl (lv_at hl 0 rfl) ?_
    refine gf_5_55 F hw dX5_undo_39 ?_
    refine lv_iconst (v := 0) hx hb dX5_undo_42 (by decide) ?_
    refine lv_aload_n hx hb dX5_undo_43 rfl (lv_at hl 0 rfl) ?_
    refine gf_5_18 F hw dX5_undo_44 ?_
    refine lv_iconst (v := 0) hx hb dX5_undo_47 (by decide) ?_
    refine lv_bipush (v := 48) hx hb dX5_undo_48 (by decide) ?_
    obtain ⟨g3, h⟩ := stG h
    refine va_copyl F.x F.b (F.ml.trans hl.1.symm) F.ow (F.ts _ kac1) (F.ts _ kac2) (F.ts _ kac3) (F.ts _ kac4) hw.1 hw.2.1 hw.2.2.1 hw.2.2.2 15 3 2 2 (f := wHs) (g := wSh) (n0 := 48) (n1 := 48) (ty := .long) rfl rfl rfl rfl rfl (cpk1 g3) (cpk2 g3) (cpk3 g3) (cpk4 g3) (cpk5 g3) (fun _ _ => rfl) (by decide) (by decide) dX5_undo_50 (fun H locs hP hD hS => ?_)
    have hw : Wd G s A (mW G q yhp yhe yhg z2.1 z2.2 (va_cpy wHs wSh (0 : Int32).toNatClampNeg (0 : Int32).toNatClampNeg (48 : Int32).toNatClampNeg) wTe wNx bOs bOn yop bSo bNu ytr yiw wMa wPr bTp yln ypl yfa wLi bSi yhp yhe yhg wHs yhi ++ fr) H locs := ⟨hw.1, hP, hD, hS⟩
    refine lv_aload_n hx hb dX5_undo_53 rfl (lv_at hl 0 rfl) ?_
    refine gf_5_62 F hw dX5_undo_54 ?_
    obtain rfl := Option.some.inj h
    exact hE H locs _ ls hw dX5_undo_57
  · replace h := stT c1 h
    refine lv_bipush (v := -3) hx hb dX5_undo_7 (by decide) ?_
    obtain rfl := Option.some.inj h
    exact hE H locs _ ls hw dX5_undo_9
end
theorem dX5_count_0 : decode cX5_count 0 = .ok (.iload_n 1, 1) := by decide +kernel
theorem dX5_count_1 : decode cX5_count 1 = .ok (.tableswitch 154 0 3 #[31, 36, 41, 79], 31) := by decide +kernel
theorem dX5_count_32 : decode cX5_count 32 = .ok (.aload_n 0, 1) := by decide +kernel
theorem dX5_count_33 : decode cX5_count 33 = .ok (.getfield 216, 3) := by decide +kernel
theorem dX5_count_36 : decode cX5_count 36 = .ok (.ireturn, 1) := by decide +kernel
theorem dX5_count_37 : decode cX5_count 37 = .ok (.aload_n 0, 1) := by decide +kernel
theorem dX5_count_38 : decode cX5_count 38 = .ok (.getfield 154, 3) := by decide +kernel
theorem dX5_count_41 : decode cX5_count 41 = .ok (.ireturn, 1) := by decide +kernel
theorem dX5_count_42 : decode cX5_count 42 = .ok (.iconst 0, 1) := by decide +kernel
theorem dX5_count_43 : decode cX5_count 43 = .ok (.istore_n 2, 1) := by decide +kernel
theorem dX5_count_44 : decode cX5_count 44 = .ok (.iconst 0, 1) := by decide +kernel
theorem dX5_count_45 : decode cX5_count 45 = .ok (.istore_n 3, 1) := by decide +kernel
theorem dX5_count_46 : decode cX5_count 46 = .ok (.iload_n 3, 1) := by decide +kernel
theorem dX5_count_47 : decode cX5_count 47 = .ok (.iconst 3, 1) := by decide +kernel
theorem dX5_count_48 : decode cX5_count 48 = .ok (.if_icmp .ge 30, 3) := by decide +kernel
theorem dX5_count_51 : decode cX5_count 51 = .ok (.iload_n 2, 1) := by decide +kernel
theorem dX5_count_52 : decode cX5_count 52 = .ok (.aload_n 0, 1) := by decide +kernel
theorem dX5_count_53 : decode cX5_count 53 = .ok (.getfield 52, 3) := by decide +kernel
theorem dX5_count_56 : decode cX5_count 56 = .ok (.iload_n 3, 1) := by decide +kernel
theorem dX5_count_57 : decode cX5_count 57 = .ok (.iaload, 1) := by decide +kernel
theorem dX5_count_58 : decode cX5_count 58 = .ok (.iconst (-1), 1) := by decide +kernel
theorem dX5_count_59 : decode cX5_count 59 = .ok (.if_icmp .eq 7, 3) := by decide +kernel
theorem dX5_count_62 : decode cX5_count 62 = .ok (.iconst 1, 1) := by decide +kernel
theorem dX5_count_63 : decode cX5_count 63 = .ok (.goto 4, 3) := by decide +kernel
theorem dX5_count_66 : decode cX5_count 66 = .ok (.iconst 0, 1) := by decide +kernel
theorem dX5_count_67 : decode cX5_count 67 = .ok (.invokestatic 103, 3) := by decide +kernel
theorem dX5_count_70 : decode cX5_count 70 = .ok (.iadd, 1) := by decide +kernel
theorem dX5_count_71 : decode cX5_count 71 = .ok (.istore_n 2, 1) := by decide +kernel
theorem dX5_count_72 : decode cX5_count 72 = .ok (.iinc 3 1, 3) := by decide +kernel
theorem dX5_count_75 : decode cX5_count 75 = .ok (.goto (-29), 3) := by decide +kernel
theorem dX5_count_78 : decode cX5_count 78 = .ok (.iload_n 2, 1) := by decide +kernel
theorem dX5_count_79 : decode cX5_count 79 = .ok (.ireturn, 1) := by decide +kernel
theorem dX5_count_80 : decode cX5_count 80 = .ok (.iconst 0, 1) := by decide +kernel
theorem dX5_count_81 : decode cX5_count 81 = .ok (.istore_n 2, 1) := by decide +kernel
theorem dX5_count_82 : decode cX5_count 82 = .ok (.iconst 0, 1) := by decide +kernel
theorem dX5_count_83 : decode cX5_count 83 = .ok (.istore_n 3, 1) := by decide +kernel
theorem dX5_count_84 : decode cX5_count 84 = .ok (.iload_n 3, 1) := by decide +kernel
theorem dX5_count_85 : decode cX5_count 85 = .ok (.iconst 4, 1) := by decide +kernel
theorem dX5_count_86 : decode cX5_count 86 = .ok (.if_icmp .ge 67, 3) := by decide +kernel
theorem dX5_count_89 : decode cX5_count 89 = .ok (.iconst 0, 1) := by decide +kernel
theorem dX5_count_90 : decode cX5_count 90 = .ok (.istore 4, 2) := by decide +kernel
theorem dX5_count_92 : decode cX5_count 92 = .ok (.iconst 0, 1) := by decide +kernel
theorem dX5_count_93 : decode cX5_count 93 = .ok (.istore 5, 2) := by decide +kernel
theorem dX5_count_95 : decode cX5_count 95 = .ok (.iload 5, 2) := by decide +kernel
theorem dX5_count_97 : decode cX5_count 97 = .ok (.aload_n 0, 1) := by decide +kernel
theorem dX5_count_98 : decode cX5_count 98 = .ok (.getfield 66, 3) := by decide +kernel
theorem dX5_count_101 : decode cX5_count 101 = .ok (.if_icmp .ge 38, 3) := by decide +kernel
theorem dX5_count_104 : decode cX5_count 104 = .ok (.iload 4, 2) := by decide +kernel
theorem dX5_count_106 : decode cX5_count 106 = .ok (.ifCond .ne 20, 3) := by decide +kernel
theorem dX5_count_109 : decode cX5_count 109 = .ok (.aload_n 0, 1) := by decide +kernel
theorem dX5_count_110 : decode cX5_count 110 = .ok (.getfield 18, 3) := by decide +kernel
theorem dX5_count_113 : decode cX5_count 113 = .ok (.bipush 12, 2) := by decide +kernel
theorem dX5_count_115 : decode cX5_count 115 = .ok (.iload_n 3, 1) := by decide +kernel
theorem dX5_count_116 : decode cX5_count 116 = .ok (.imul, 1) := by decide +kernel
theorem dX5_count_117 : decode cX5_count 117 = .ok (.iload 5, 2) := by decide +kernel
theorem dX5_count_119 : decode cX5_count 119 = .ok (.iadd, 1) := by decide +kernel
theorem dX5_count_120 : decode cX5_count 120 = .ok (.laload, 1) := by decide +kernel
theorem dX5_count_121 : decode cX5_count 121 = .ok (.lconst 0, 1) := by decide +kernel
theorem dX5_count_122 : decode cX5_count 122 = .ok (.lcmp, 1) := by decide +kernel
theorem dX5_count_123 : decode cX5_count 123 = .ok (.ifCond .eq 7, 3) := by decide +kernel
theorem dX5_count_126 : decode cX5_count 126 = .ok (.iconst 1, 1) := by decide +kernel
theorem dX5_count_127 : decode cX5_count 127 = .ok (.goto 4, 3) := by decide +kernel
theorem dX5_count_130 : decode cX5_count 130 = .ok (.iconst 0, 1) := by decide +kernel
theorem dX5_count_131 : decode cX5_count 131 = .ok (.istore 4, 2) := by decide +kernel
theorem dX5_count_133 : decode cX5_count 133 = .ok (.iinc 5 1, 3) := by decide +kernel
theorem dX5_count_136 : decode cX5_count 136 = .ok (.goto (-41), 3) := by decide +kernel
theorem dX5_count_139 : decode cX5_count 139 = .ok (.iload_n 2, 1) := by decide +kernel
theorem dX5_count_140 : decode cX5_count 140 = .ok (.iload 4, 2) := by decide +kernel
theorem dX5_count_142 : decode cX5_count 142 = .ok (.invokestatic 103, 3) := by decide +kernel
theorem dX5_count_145 : decode cX5_count 145 = .ok (.iadd, 1) := by decide +kernel
theorem dX5_count_146 : decode cX5_count 146 = .ok (.istore_n 2, 1) := by decide +kernel
theorem dX5_count_147 : decode cX5_count 147 = .ok (.iinc 3 1, 3) := by decide +kernel
theorem dX5_count_150 : decode cX5_count 150 = .ok (.goto (-66), 3) := by decide +kernel
theorem dX5_count_153 : decode cX5_count 153 = .ok (.iload_n 2, 1) := by decide +kernel
theorem dX5_count_154 : decode cX5_count 154 = .ok (.ireturn, 1) := by decide +kernel
theorem dX5_count_155 : decode cX5_count 155 = .ok (.iconst (-1), 1) := by decide +kernel
theorem dX5_count_156 : decode cX5_count 156 = .ok (.ireturn, 1) := by decide +kernel
section
variable {p : Program} {l : Launch} {e : Env} {s : State} {m : MethodId} {args : Array Value} {below : List Frame} {meth : Method} {c : Code} {Q : State → Prop} {G : GG} {A : Nat → Prop} {q : Nat → Nat} {fr : va_W}
def f_X5_count_L95 (ye : Int32) (wSh : Nat → Int64) (ytr : Int32) (yln : Int32) (bSi : Nat → Int32) (v1 : Int32) (KK : Int32 → Int32 → Option (Int32)) : Nat → Int32 → Int32 → Int32 → Int32 → Option (Int32)
  | 0, _, _, _, _ => none
  | fu + 1, v2, v3, v4, v5 =>
    if ye ≤ v5 then
    (f_X5_bit v4).bind fun z2 =>
    KK (v2 + z2) (v3 + 1)
    else
    if v4 = 0 then
    if inb ((12 * v3) + v5) 48 then
    if (lg_cmp (wSh ((12 * v3) + v5).toNatClampNeg) 0) = 0 then
    f_X5_count_L95 ye wSh ytr yln bSi v1 KK fu v2 v3 0 (v5 + 1)
    else
    f_X5_count_L95 ye wSh ytr yln bSi v1 KK fu v2 v3 1 (v5 + 1)
    else none
    else
    f_X5_count_L95 ye wSh ytr yln bSi v1 KK fu v2 v3 1 (v5 + 1)
set_option maxHeartbeats 4000000 in
set_option maxRecDepth 100000 in
theorem w_X5_count_L95  {yp : Int32} {ye : Int32} {yg : Int32} {bPo : Nat → Int32} {bTb : Nat → Int32} {wSh : Nat → Int64} {wTe : Nat → Int64} {wNx : Nat → Int64} {bOs : Nat → Int32} {bOn : Nat → Int32} {yop : Int32} {bSo : Nat → Int32} {bNu : Nat → Int32} {ytr : Int32} {yiw : Int32} {wMa : Nat → Int64} {wPr : Nat → Int64} {bTp : Nat → Int32} {yln : Int32} {ypl : Int32} {yfa : Int32} {wLi : Nat → Int64} {bSi : Nat → Int32} {yhp : Int32} {yhe : Int32} {yhg : Int32} {wHs : Nat → Int64} {yhi : Int32} {v1 : Int32} {KK : Int32 → Int32 → Option (Int32)} (F : Fx p s m args meth c cX5_count 6 RX5 (some .int)) (hA : ∀ q, s.heap.size ≤ q → A q)  (hK : ∀ (v2 : Int32) (v3 : Int32) (z : Int32), KK v2 v3 = some z → Ends p l e (rmOf 1 20) s m args below meth c Q cX5_count G A (some .int) (some (.int z)) (mW G q yp ye yg bPo bTb wSh wTe wNx bOs bOn yop bSo bNu ytr yiw wMa wPr bTp yln ypl yfa wLi bSi yhp yhe yhg wHs yhi ++ fr) → ∀ (H : Heap) (locs : List Loc) (ls : Array Slot), Wd G s A (mW G q yp ye yg bPo bTb wSh wTe wNx bOs bOn yop bSo bNu ytr yiw wMa wPr bTp yln ypl yfa wLi bSi yhp yhe yhg wHs yhi ++ fr) H locs → lv_has ls 6 [(0, .ref (q 0)), (2, .int v2), (3, .int v3)] → W p l e (rmOf 1 20) s m args below meth c H locs 0 0 Q (F0 m 84 ls [])) : ∀ (fu : Nat) (v2 : Int32) (v3 : Int32) (v4 : Int32) (v5 : Int32) (z : Int32), f_X5_count_L95 ye wSh ytr yln bSi v1 KK fu v2 v3 v4 v5 = some z → Ends p l e (rmOf 1 20) s m args below meth c Q cX5_count G A (some .int) (some (.int z)) (mW G q yp ye yg bPo bTb wSh wTe wNx bOs bOn yop bSo bNu ytr yiw wMa wPr bTp yln ypl yfa wLi bSi yhp yhe yhg wHs yhi ++ fr) → ∀ (H : Heap) (locs : List Loc) (ls : Array Slot), Wd G s A (mW G q yp ye yg bPo bTb wSh wTe wNx bOs bOn yop bSo bNu ytr yiw wMa wPr bTp yln ypl yfa wLi bSi yhp yhe yhg wHs yhi ++ fr) H locs → lv_has ls 6 [(0, .ref (q 0)), (2, .int v2), (3, .int v3), (4, .int v4), (5, .int v5)] → W p l e (rmOf 1 20) s m args below meth c H locs 0 0 Q (F0 m 95 ls []) := by
  have hx := F.x
  have hb := F.b
  intro fu
  induction fu with
  | zero =>
    intro v2 v3 v4 v5 z h
    cases (h : none = some z)
  | succ fu ih =>
    intro v2 v3 v4 v5 z h hE H locs ls hw hl
    rw [f_X5_count_L95] at h
    refine lv_iload hx hb dX5_count_95 (lv_at hl 4 rfl) ?_
    refine lv_aload_n hx hb dX5_count_97 rfl (lv_at hl 0 rfl) ?_
    refine gf_5_66 F hw dX5_count_98 ?_
    refine lv_icmp_ge (tgt := 139) hx hb dX5_count_101 (by decide) (fun c1 => ?_) (fun c1 => ?_)
    · replace h := stT c1 h
      refine lv_iload_n hx hb dX5_count_139 rfl (lv_at hl 1 rfl) ?_
      refine lv_iload hx hb dX5_count_140 (lv_at hl 3 rfl) ?_
      obtain ⟨z2, hz2, h⟩ := stB h
      refine ctS (av := [.int v4]) (st0 := ([.int v2] : List Value)) (st1 := ([.int z2, .int v2] : List Value)) F hw hA (k_X5_bit hz2) kl_5_103 kd_X5_bit rfl ⟨by decide, by decide⟩ hl.1 rfl (Nat.le_of_ble_eq_true rfl) dX5_count_142 rfl (fun H locs hw => ?_)
      refine lv_iadd hx hb dX5_count_145 ?_
      refine lv_istore_n (lv' := [(2, .int (v2 + z2)), (0, .ref (q 0)), (3, .int v3), (4, .int v4), (5, .int v5)]) hx hb dX5_count_146 rfl hl (by decide) rfl (fun ls hl => ?_)
      refine lv_iinc (v := (v3 + 1)) (lv' := [(3, .int (v3 + 1)), (2, .int (v2 + z2)), (0, .ref (q 0)), (4, .int v4), (5, .int v5)]) hx hb dX5_count_147 hl (k := 2) rfl rfl (by decide) rfl (fun ls hl => ?_)
      refine lv_goto (tgt := 84) hx hb dX5_count_150 (by decide) ?_
      exact hK _ _ z h hE H locs ls hw (lv_sub hl [2, 1, 0] rfl)
    · replace h := stF c1 h
      refine lv_iload hx hb dX5_count_104 (lv_at hl 3 rfl) ?_
      refine lv_if_ne (tgt := 126) hx hb dX5_count_106 (by decide) (fun c3 => ?_) (fun c3 => ?_)
      · replace h := stF c3 h
        refine lv_iconst (v := 1) hx hb dX5_count_126 (by decide) ?_
        refine lv_goto (tgt := 131) hx hb dX5_count_127 (by decide) ?_
        refine lv_istore (lv' := [(4, .int 1), (0, .ref (q 0)), (2, .int v2), (3, .int v3), (5, .int v5)]) hx hb dX5_count_131 hl (by decide) rfl (fun ls hl => ?_)
        refine lv_iinc (v := (v5 + 1)) (lv' := [(5, .int (v5 + 1)), (4, .int 1), (0, .ref (q 0)), (2, .int v2), (3, .int v3)]) hx hb dX5_count_133 hl (k := 4) rfl rfl (by decide) rfl (fun ls hl => ?_)
        refine lv_goto (tgt := 95) hx hb dX5_count_136 (by decide) ?_
        exact ih _ _ _ _ z h hE H locs ls hw (lv_sub hl [2, 3, 4, 1, 0] rfl)
      · replace h := stT c3 h
        refine lv_aload_n hx hb dX5_count_109 rfl (lv_at hl 0 rfl) ?_
        refine gf_5_18 F hw dX5_count_110 ?_
        refine lv_bipush (v := 12) hx hb dX5_count_113 (by decide) ?_
        refine lv_iload_n hx hb dX5_count_115 rfl (lv_at hl 2 rfl) ?_
        refine lv_imul hx hb dX5_count_116 ?_
        refine lv_iload hx hb dX5_count_117 (lv_at hl 4 rfl) ?_
        refine lv_iadd hx hb dX5_count_119 ?_
        obtain ⟨g4, h⟩ := stG h
        refine al_m3 F hw g4 dX5_count_120 ?_
        refine lv_lconst (v := 0) hx hb dX5_count_121 (by decide) ?_
        refine W.lcmp hx hb dX5_count_122 ?_
        refine lv_if_eq (tgt := 130) hx hb dX5_count_123 (by decide) (fun c5 => ?_) (fun c5 => ?_)
        · replace h := stT c5 h
          refine lv_iconst (v := 0) hx hb dX5_count_130 (by decide) ?_
          refine lv_istore (lv' := [(4, .int 0), (0, .ref (q 0)), (2, .int v2), (3, .int v3), (5, .int v5)]) hx hb dX5_count_131 hl (by decide) rfl (fun ls hl => ?_)
          refine lv_iinc (v := (v5 + 1)) (lv' := [(5, .int (v5 + 1)), (4, .int 0), (0, .ref (q 0)), (2, .int v2), (3, .int v3)]) hx hb dX5_count_133 hl (k := 4) rfl rfl (by decide) rfl (fun ls hl => ?_)
          refine lv_goto (tgt := 95) hx hb dX5_count_136 (by decide) ?_
          exact ih _ _ _ _ z h hE H locs ls hw (lv_sub hl [2, 3, 4, 1, 0] rfl)
        · replace h := stF c5 h
          refine lv_iconst (v := 1) hx hb dX5_count_126 (by decide) ?_
          refine lv_goto (tgt := 131) hx hb dX5_count_127 (by decide) ?_
          refine lv_istore (lv' := [(4, .int 1), (0, .ref (q 0)), (2, .int v2), (3, .int v3), (5, .int v5)]) hx hb dX5_count_131 hl (by decide) rfl (fun ls hl => ?_)
          refine lv_iinc (v := (v5 + 1)) (lv' := [(5, .int (v5 + 1)), (4, .int 1), (0, .ref (q 0)), (2, .int v2), (3, .int v3)]) hx hb dX5_count_133 hl (k := 4) rfl rfl (by decide) rfl (fun ls hl => ?_)
          refine lv_goto (tgt := 95) hx hb dX5_count_136 (by decide) ?_
          exact ih _ _ _ _ z h hE H locs ls hw (lv_sub hl [2, 3, 4, 1, 0] rfl)
def f_X5_count_L84 (ye : Int32) (wSh : Nat → Int64) (ytr : Int32) (yln : Int32) (bSi : Nat → Int32) (v1 : Int32) : Nat → Int32 → Int32 → Option (Int32)
  | 0, _, _ => none
  | fu + 1, v2, v3 =>
    if 4 ≤ v3 then
    some v2
    else
    f_X5_count_L95 ye wSh ytr yln bSi v1 (fun w0 w1 => f_X5_count_L84 ye wSh ytr yln bSi v1 fu w0 w1) FU v2 v3 0 0
set_option maxHeartbeats 4000000 in
set_option maxRecDepth 100000 in
theorem w_X5_count_L84  {yp : Int32} {ye : Int32} {yg : Int32} {bPo : Nat → Int32} {bTb : Nat → Int32} {wSh : Nat → Int64} {wTe : Nat → Int64} {wNx : Nat → Int64} {bOs : Nat → Int32} {bOn : Nat → Int32} {yop : Int32} {bSo : Nat → Int32} {bNu : Nat → Int32} {ytr : Int32} {yiw : Int32} {wMa : Nat → Int64} {wPr : Nat → Int64} {bTp : Nat → Int32} {yln : Int32} {ypl : Int32} {yfa : Int32} {wLi : Nat → Int64} {bSi : Nat → Int32} {yhp : Int32} {yhe : Int32} {yhg : Int32} {wHs : Nat → Int64} {yhi : Int32} {v1 : Int32}  (F : Fx p s m args meth c cX5_count 6 RX5 (some .int)) (hA : ∀ q, s.heap.size ≤ q → A q)   : ∀ (fu : Nat) (v2 : Int32) (v3 : Int32) (z : Int32), f_X5_count_L84 ye wSh ytr yln bSi v1 fu v2 v3 = some z → Ends p l e (rmOf 1 20) s m args below meth c Q cX5_count G A (some .int) (some (.int z)) (mW G q yp ye yg bPo bTb wSh wTe wNx bOs bOn yop bSo bNu ytr yiw wMa wPr bTp yln ypl yfa wLi bSi yhp yhe yhg wHs yhi ++ fr) → ∀ (H : Heap) (locs : List Loc) (ls : Array Slot), Wd G s A (mW G q yp ye yg bPo bTb wSh wTe wNx bOs bOn yop bSo bNu ytr yiw wMa wPr bTp yln ypl yfa wLi bSi yhp yhe yhg wHs yhi ++ fr) H locs → lv_has ls 6 [(0, .ref (q 0)), (2, .int v2), (3, .int v3)] → W p l e (rmOf 1 20) s m args below meth c H locs 0 0 Q (F0 m 84 ls []) := by
  have hx := F.x
  have hb := F.b
  intro fu
  induction fu with
  | zero =>
    intro v2 v3 z h
    cases (h : none = some z)
  | succ fu ih =>
    intro v2 v3 z h hE H locs ls hw hl
    rw [f_X5_count_L84] at h
    refine lv_iload_n hx hb dX5_count_84 rfl (lv_at hl 2 rfl) ?_
    refine lv_iconst (v := 4) hx hb dX5_count_85 (by decide) ?_
    refine lv_icmp_ge (tgt := 153) hx hb dX5_count_86 (by decide) (fun c1 => ?_) (fun c1 => ?_)
    · replace h := stT c1 h
      refine lv_iload_n hx hb dX5_count_153 rfl (lv_at hl 1 rfl) ?_
      obtain rfl := Option.some.inj h
      exact hE H locs _ ls hw dX5_count_154
    · replace h := stF c1 h
      refine lv_iconst (v := 0) hx hb dX5_count_89 (by decide) ?_
      refine lv_istore (lv' := [(4, .int 0), (0, .ref (q 0)), (2, .int v2), (3, .int v3)]) hx hb dX5_count_90 hl (by decide) rfl (fun ls hl => ?_)
      refine lv_iconst (v := 0) hx hb dX5_count_92 (by decide) ?_
      refine lv_istore (lv' := [(5, .int 0), (4, .int 0), (0, .ref (q 0)), (2, .int v2), (3, .int v3)]) hx hb dX5_count_93 hl (by decide) rfl (fun ls hl => ?_)
      exact w_X5_count_L95 F hA  (fun w0 w1 z h hE H locs ls hw hl => ih w0 w1 z h hE H locs ls hw hl) FU _ _ _ _ z h hE H locs ls hw (lv_sub hl [2, 3, 4, 1, 0] rfl)
def f_X5_count_L46 (ye : Int32) (wSh : Nat → Int64) (ytr : Int32) (yln : Int32) (bSi : Nat → Int32) (v1 : Int32) : Nat → Int32 → Int32 → Option (Int32)
  | 0, _, _ => none
  | fu + 1, v2, v3 =>
    if 3 ≤ v3 then
    some v2
    else
    if inb v3 3 then
    if (bSi v3.toNatClampNeg) = (-1) then
    (f_X5_bit 0).bind fun z4 =>
    f_X5_count_L46 ye wSh ytr yln bSi v1 fu (v2 + z4) (v3 + 1)
    else
    (f_X5_bit 1).bind fun z5 =>
    f_X5_count_L46 ye wSh ytr yln bSi v1 fu (v2 + z5) (v3 + 1)
    else none
set_option maxHeartbeats 4000000 in
set_option maxRecDepth 100000 in
theorem w_X5_count_L46  {yp : Int32} {ye : Int32} {yg : Int32} {bPo : Nat → Int32} {bTb : Nat → Int32} {wSh : Nat → Int64} {wTe : Nat → Int64} {wNx : Nat → Int64} {bOs : Nat → Int32} {bOn : Nat → Int32} {yop : Int32} {bSo : Nat → Int32} {bNu : Nat → Int32} {ytr : Int32} {yiw : Int32} {wMa : Nat → Int64} {wPr : Nat → Int64} {bTp : Nat → Int32} {yln : Int32} {ypl : Int32} {yfa : Int32} {wLi : Nat → Int64} {bSi : Nat → Int32} {yhp : Int32} {yhe : Int32} {yhg : Int32} {wHs : Nat → Int64} {yhi : Int32} {v1 : Int32}  (F : Fx p s m args meth c cX5_count 6 RX5 (some .int)) (hA : ∀ q, s.heap.size ≤ q → A q)   : ∀ (fu : Nat) (v2 : Int32) (v3 : Int32) (z : Int32), f_X5_count_L46 ye wSh ytr yln bSi v1 fu v2 v3 = some z → Ends p l e (rmOf 1 20) s m args below meth c Q cX5_count G A (some .int) (some (.int z)) (mW G q yp ye yg bPo bTb wSh wTe wNx bOs bOn yop bSo bNu ytr yiw wMa wPr bTp yln ypl yfa wLi bSi yhp yhe yhg wHs yhi ++ fr) → ∀ (H : Heap) (locs : List Loc) (ls : Array Slot), Wd G s A (mW G q yp ye yg bPo bTb wSh wTe wNx bOs bOn yop bSo bNu ytr yiw wMa wPr bTp yln ypl yfa wLi bSi yhp yhe yhg wHs yhi ++ fr) H locs → lv_has ls 6 [(0, .ref (q 0)), (2, .int v2), (3, .int v3)] → W p l e (rmOf 1 20) s m args below meth c H locs 0 0 Q (F0 m 46 ls []) := by
  have hx := F.x
  have hb := F.b
  intro fu
  induction fu with
  | zero =>
    intro v2 v3 z h
    cases (h : none = some z)
  | succ fu ih =>
    intro v2 v3 z h hE H locs ls hw hl
    rw [f_X5_count_L46] at h
    refine lv_iload_n hx hb dX5_count_46 rfl (lv_at hl 2 rfl) ?_
    refine lv_iconst (v := 3) hx hb dX5_count_47 (by decide) ?_
    refine lv_icmp_ge (tgt := 78) hx hb dX5_count_48 (by decide) (fun c1 => ?_) (fun c1 => ?_)
    · replace h := stT c1 h
      refine lv_iload_n hx hb dX5_count_78 rfl (lv_at hl 1 rfl) ?_
      obtain rfl := Option.some.inj h
      exact hE H locs _ ls hw dX5_count_79
    · replace h := stF c1 h
      refine lv_iload_n hx hb dX5_count_51 rfl (lv_at hl 1 rfl) ?_
      refine lv_aload_n hx hb dX5_count_52 rfl (lv_at hl 0 rfl) ?_
      refine gf_5_52 F hw dX5_count_53 ?_
      refine lv_iload_n hx hb dX5_count_56 rfl (lv_at hl 2 rfl) ?_
      obtain ⟨g2, h⟩ := stG h
      refine al_m14 F hw g2 dX5_count_57 ?_
      refine lv_iconst (v := -1) hx hb dX5_count_58 (by decide) ?_
      refine lv_icmp_eq (tgt := 66) hx hb dX5_count_59 (by decide) (fun c3 => ?_) (fun c3 => ?_)
      · replace h := stT c3 h
        refine lv_iconst (v := 0) hx hb dX5_count_66 (by decide) ?_
        obtain ⟨z4, hz4, h⟩ := stB h
        refine ctS (av := [.int 0]) (st0 := ([.int v2] : List Value)) (st1 := ([.int z4, .int v2] : List Value)) F hw hA (k_X5_bit hz4) kl_5_103 kd_X5_bit rfl ⟨by decide, by decide⟩ hl.1 rfl (Nat.le_of_ble_eq_true rfl) dX5_count_67 rfl (fun H locs hw => ?_)
        refine lv_iadd hx hb dX5_count_70 ?_
        refine lv_istore_n (lv' := [(2, .int (v2 + z4)), (0, .ref (q 0)), (3, .int v3)]) hx hb dX5_count_71 rfl hl (by decide) rfl (fun ls hl => ?_)
        refine lv_iinc (v := (v3 + 1)) (lv' := [(3, .int (v3 + 1)), (2, .int (v2 + z4)), (0, .ref (q 0))]) hx hb dX5_count_72 hl (k := 2) rfl rfl (by decide) rfl (fun ls hl => ?_)
        refine lv_goto (tgt := 46) hx hb dX5_count_75 (by decide) ?_
        exact ih _ _ z h hE H locs ls hw (lv_sub hl [2, 1, 0] rfl)
      · replace h := stF c3 h
        refine lv_iconst (v := 1) hx hb dX5_count_62 (by decide) ?_
        refine lv_goto (tgt := 67) hx hb dX5_count_63 (by decide) ?_
        obtain ⟨z5, hz5, h⟩ := stB h
        refine ctS (av := [.int 1]) (st0 := ([.int v2] : List Value)) (st1 := ([.int z5, .int v2] : List Value)) F hw hA (k_X5_bit hz5) kl_5_103 kd_X5_bit rfl ⟨by decide, by decide⟩ hl.1 rfl (Nat.le_of_ble_eq_true rfl) dX5_count_67 rfl (fun H locs hw => ?_)
        refine lv_iadd hx hb dX5_count_70 ?_
        refine lv_istore_n (lv' := [(2, .int (v2 + z5)), (0, .ref (q 0)), (3, .int v3)]) hx hb dX5_count_71 rfl hl (by decide) rfl (fun ls hl => ?_)
        refine lv_iinc (v := (v3 + 1)) (lv' := [(3, .int (v3 + 1)), (2, .int (v2 + z5)), (0, .ref (q 0))]) hx hb dX5_count_72 hl (k := 2) rfl rfl (by decide) rfl (fun ls hl => ?_)
        refine lv_goto (tgt := 46) hx hb dX5_count_75 (by decide) ?_
        exact ih _ _ z h hE H locs ls hw (lv_sub hl [2, 1, 0] rfl)
def f_X5_count (ye : Int32) (wSh : Nat → Int64) (ytr : Int32) (yln : Int32) (bSi : Nat → Int32) (v1 : Int32) : Option (Int32) :=
  if v1 = 0 then
  some yln
  else
  if v1 = 1 then
  some ytr
  else
  if v1 = 2 then
  f_X5_count_L46 ye wSh ytr yln bSi v1 FU 0 0
  else
  if v1 = 3 then
  f_X5_count_L84 ye wSh ytr yln bSi v1 FU 0 0
  else
  some (-1)
set_option maxHeartbeats 4000000 in
set_option maxRecDepth 100000 in
theorem k_X5_count {l : Launch} {G : GG} {q : Nat → Nat} {fr : va_W}  {yp : Int32} {ye : Int32} {yg : Int32} {bPo : Nat → Int32} {bTb : Nat → Int32} {wSh : Nat → Int64} {wTe : Nat → Int64} {wNx : Nat → Int64} {bOs : Nat → Int32} {bOn : Nat → Int32} {yop : Int32} {bSo : Nat → Int32} {bNu : Nat → Int32} {ytr : Int32} {yiw : Int32} {wMa : Nat → Int64} {wPr : Nat → Int64} {bTp : Nat → Int32} {yln : Int32} {ypl : Int32} {yfa : Int32} {wLi : Nat → Int64} {bSi : Nat → Int32} {yhp : Int32} {yhe : Int32} {yhg : Int32} {wHs : Nat → Int64} {yhi : Int32} {v1 : Int32} {z : Int32}  (h : f_X5_count ye wSh ytr yln bSi v1 = some z) : Ct l G yX5_count cX5_count 6 (some .int) 1 20 [.ref (q 0), .int v1] (mW G q yp ye yg bPo bTb wSh wTe wNx bOs bOn yop bSo bNu ytr yiw wMa wPr bTp yln ypl yfa wLi bSi yhp yhe yhg wHs yhi ++ fr) (some (.int z)) (mW G q yp ye yg bPo bTb wSh wTe wNx bOs bOn yop bSo bNu ytr yiw wMa wPr bTp yln ypl yfa wLi bSi yhp yhe yhg wHs yhi ++ fr) := by
  refine Ct.of (by decide +kernel) (Nat.le_of_ble_eq_true rfl) trivial ?_
  intro p e s m args below meth c Q A ls F hw hA hE hl
  have hx := F.x
  have hb := F.b
  unfold f_X5_count at h
  obtain ⟨H, hH⟩ : ∃ H, H = s.heap := ⟨_, rfl⟩
  obtain ⟨locs, hlo⟩ : ∃ locs : List Loc, locs = [] := ⟨_, rfl⟩
  rw [← hH, ← hlo] at hw ⊢
  have hl : lv_has ls 6 [(0, .ref (q 0)), (1, .int v1)] := hl
  refine lv_iload_n hx hb dX5_count_0 rfl (lv_at hl 1 rfl) ?_
  by_cases c1 : v1 = 0
  · replace h := stT c1 h
    refine lv_tableIn (off := 31) (tgt := 32) hx hb dX5_count_1 (by rw [c1]; decide) (by rw [c1]; decide) (by rw [c1]; rfl) (by decide) ?_
    refine lv_aload_n hx hb dX5_count_32 rfl (lv_at hl 0 rfl) ?_
    refine gf_5_216 F hw dX5_count_33 ?_
    obtain rfl := Option.some.inj h
    exact hE H locs _ ls hw dX5_count_36
  replace h := stF c1 h
  by_cases c2 : v1 = 1
  · replace h := stT c2 h
    refine lv_tableIn (off := 36) (tgt := 37) hx hb dX5_count_1 (by rw [c2]; decide) (by rw [c2]; decide) (by rw [c2]; rfl) (by decide) ?_
    refine lv_aload_n hx hb dX5_count_37 rfl (lv_at hl 0 rfl) ?_
    refine gf_5_154 F hw dX5_count_38 ?_
    obtain rfl := Option.some.inj h
    exact hE H locs _ ls hw dX5_count_41
  replace h := stF c2 h
  by_cases c3 : v1 = 2
  · replace h := stT c3 h
    refine lv_tableIn (off := 41) (tgt := 42) hx hb dX5_count_1 (by rw [c3]; decide) (by rw [c3]; decide) (by rw [c3]; rfl) (by decide) ?_
    refine lv_iconst (v := 0) hx hb dX5_count_42 (by decide) ?_
    refine lv_istore_n (lv' := [(2, .int 0), (0, .ref (q 0)), (1, .int v1)]) hx hb dX5_count_43 rfl hl (by decide) rfl (fun ls hl => ?_)
    refine lv_iconst (v := 0) hx hb dX5_count_44 (by decide) ?_
    refine lv_istore_n (lv' := [(3, .int 0), (2, .int 0), (0, .ref (q 0)), (1, .int v1)]) hx hb dX5_count_45 rfl hl (by decide) rfl (fun ls hl => ?_)
    exact w_X5_count_L46 F hA  FU _ _ z h hE H locs ls hw (lv_sub hl [2, 1, 0] rfl)
  replace h := stF c3 h
  by_cases c4 : v1 = 3
  · replace h := stT c4 h
    refine lv_tableIn (off := 79) (tgt := 80) hx hb dX5_count_1 (by rw [c4]; decide) (by rw [c4]; decide) (by rw [c4]; rfl) (by decide) ?_
    refine lv_iconst (v := 0) hx hb dX5_count_80 (by decide) ?_
    refine lv_istore_n (lv' := [(2, .int 0), (0, .ref (q 0)), (1, .int v1)]) hx hb dX5_count_81 rfl hl (by decide) rfl (fun ls hl => ?_)
    refine lv_iconst (v := 0) hx hb dX5_count_82 (by decide) ?_
    refine lv_istore_n (lv' := [(3, .int 0), (2, .int 0), (0, .ref (q 0)), (1, .int v1)]) hx hb dX5_count_83 rfl hl (by decide) rfl (fun ls hl => ?_)
    exact w_X5_count_L84 F hA  FU _ _ z h hE H locs ls hw (lv_sub hl [2, 1, 0] rfl)
  replace h := stF c4 h
  refine lv_tableOut (tgt := 155) hx hb dX5_count_1 (tsw4 c1 c2 c3 c4) (by decide) ?_
  refine lv_iconst (v := -1) hx hb dX5_count_155 (by decide) ?_
  obtain rfl := Option.some.inj h
  exact hE H locs _ ls hw dX5_count_156
end
