/-! printed by wip/whole/mk.py: the functions that mirror the bytecode, and the contracts over them -/
theorem dX5_begins__0 : decode cX5_begins_ 0 = .ok (.aload_n 0, 1) := by decide +kernel
theorem dX5_begins__1 : decode cX5_begins_ 1 = .ok (.iconst 0, 1) := by decide +kernel
theorem dX5_begins__2 : decode cX5_begins_ 2 = .ok (.putfield 147, 3) := by decide +kernel
theorem dX5_begins__5 : decode cX5_begins_ 5 = .ok (.aload_n 0, 1) := by decide +kernel
theorem dX5_begins__6 : decode cX5_begins_ 6 = .ok (.iconst 0, 1) := by decide +kernel
theorem dX5_begins__7 : decode cX5_begins_ 7 = .ok (.putfield 150, 3) := by decide +kernel
theorem dX5_begins__10 : decode cX5_begins_ 10 = .ok (.return_, 1) := by decide +kernel
section
variable {p : Program} {l : Launch} {e : Env} {s : State} {m : MethodId} {args : Array Value} {below : List Frame} {meth : Method} {c : Code} {Q : State → Prop} {G : GG} {A : Nat → Prop} {q : Nat → Nat} {fr : va_W}
def f_X5_begins_ (yop : Int32) (yiw : Int32) : Option (Int32 × Int32) :=
  some (0, 0)
set_option maxHeartbeats 4000000 in
set_option maxRecDepth 100000 in
theorem k_X5_begins_ {l : Launch} {G : GG} {q : Nat → Nat} {fr : va_W}  {yp : Int32} {ye : Int32} {yg : Int32} {bPo : Nat → Int32} {bTb : Nat → Int32} {wSh : Nat → Int64} {wTe : Nat → Int64} {wNx : Nat → Int64} {bOs : Nat → Int32} {bOn : Nat → Int32} {yop : Int32} {bSo : Nat → Int32} {bNu : Nat → Int32} {ytr : Int32} {yiw : Int32} {wMa : Nat → Int64} {wPr : Nat → Int64} {bTp : Nat → Int32} {yln : Int32} {ypl : Int32} {yfa : Int32} {wLi : Nat → Int64} {bSi : Nat → Int32} {yhp : Int32} {yhe : Int32} {yhg : Int32} {wHs : Nat → Int64} {yhi : Int32}  {z : Int32 × Int32}  (h : f_X5_begins_ yop yiw = some z) : Ct l G yX5_begins_ cX5_begins_ 1 none 0 0 [.ref (q 0)] (mW G q yp ye yg bPo bTb wSh wTe wNx bOs bOn yop bSo bNu ytr yiw wMa wPr bTp yln ypl yfa wLi bSi yhp yhe yhg wHs yhi ++ fr) (none) (mW G q yp ye yg bPo bTb wSh wTe wNx bOs bOn z.1 bSo bNu ytr z.2 wMa wPr bTp yln ypl yfa wLi bSi yhp yhe yhg wHs yhi ++ fr) := by
  refine Ct.of (by decide +kernel) (Nat.le_of_ble_eq_true rfl) trivial ?_
  intro p e s m args below meth c Q A ls F hw hA hE hl
  have hx := F.x
  have hb := F.b
  unfold f_X5_begins_ at h
  obtain ⟨H, hH⟩ : ∃ H, H = s.heap := ⟨_, rfl⟩
  obtain ⟨locs, hlo⟩ : ∃ locs : List Loc, locs = [] := ⟨_, rfl⟩
  rw [← hH, ← hlo] at hw ⊢
  have hl : lv_has ls 1 [(0, .ref (q 0))] := hl
  refine lv_aload_n hx hb dX5_begins__0 rfl (lv_at hl 0 rfl) ?_
  refine lv_iconst (v := 0) hx hb dX5_begins__1 (by decide) ?_
  refine pf_5_147 F hw dX5_begins__2 (fun H locs hw => ?_)
  refine lv_aload_n hx hb dX5_begins__5 rfl (lv_at hl 0 rfl) ?_
  refine lv_iconst (v := 0) hx hb dX5_begins__6 (by decide) ?_
  refine pf_5_150 (by decide) F hw dX5_begins__7 (fun H locs hw => ?_)
  obtain rfl := Option.some.inj h
  exact hE H locs _ ls hw dX5_begins__10
end
theorem dX5_opens_0 : decode cX5_opens 0 = .ok (.aload_n 0, 1) := by decide +kernel
theorem dX5_opens_1 : decode cX5_opens 1 = .ok (.getfield 28, 3) := by decide +kernel
theorem dX5_opens_4 : decode cX5_opens 4 = .ok (.aload_n 0, 1) := by decide +kernel
theorem dX5_opens_5 : decode cX5_opens 5 = .ok (.getfield 147, 3) := by decide +kernel
theorem dX5_opens_8 : decode cX5_opens 8 = .ok (.iload_n 1, 1) := by decide +kernel
theorem dX5_opens_9 : decode cX5_opens 9 = .ok (.iastore, 1) := by decide +kernel
theorem dX5_opens_10 : decode cX5_opens 10 = .ok (.aload_n 0, 1) := by decide +kernel
theorem dX5_opens_11 : decode cX5_opens 11 = .ok (.getfield 31, 3) := by decide +kernel
theorem dX5_opens_14 : decode cX5_opens 14 = .ok (.aload_n 0, 1) := by decide +kernel
theorem dX5_opens_15 : decode cX5_opens 15 = .ok (.getfield 147, 3) := by decide +kernel
theorem dX5_opens_18 : decode cX5_opens 18 = .ok (.iload_n 2, 1) := by decide +kernel
theorem dX5_opens_19 : decode cX5_opens 19 = .ok (.iastore, 1) := by decide +kernel
theorem dX5_opens_20 : decode cX5_opens 20 = .ok (.aload_n 0, 1) := by decide +kernel
theorem dX5_opens_21 : decode cX5_opens 21 = .ok (.dup, 1) := by decide +kernel
theorem dX5_opens_22 : decode cX5_opens 22 = .ok (.getfield 147, 3) := by decide +kernel
theorem dX5_opens_25 : decode cX5_opens 25 = .ok (.iconst 1, 1) := by decide +kernel
theorem dX5_opens_26 : decode cX5_opens 26 = .ok (.iadd, 1) := by decide +kernel
theorem dX5_opens_27 : decode cX5_opens 27 = .ok (.putfield 147, 3) := by decide +kernel
theorem dX5_opens_30 : decode cX5_opens 30 = .ok (.return_, 1) := by decide +kernel
section
variable {p : Program} {l : Launch} {e : Env} {s : State} {m : MethodId} {args : Array Value} {below : List Frame} {meth : Method} {c : Code} {Q : State → Prop} {G : GG} {A : Nat → Prop} {q : Nat → Nat} {fr : va_W}
def f_X5_opens (bOs : Nat → Int32) (bOn : Nat → Int32) (yop : Int32) (v1 : Int32) (v2 : Int32) : Option ((Nat → Int32) × (Nat → Int32) × Int32) :=
  if inb yop 7 then
  if inb yop 7 then
  some ((upd bOs yop.toNatClampNeg v1), (upd bOn yop.toNatClampNeg v2), (yop + 1))
  else none
  else none
set_option maxHeartbeats 4000000 in
set_option maxRecDepth 100000 in
theorem k_X5_opens {l : Launch} {G : GG} {q : Nat → Nat} {fr : va_W}  {yp : Int32} {ye : Int32} {yg : Int32} {bPo : Nat → Int32} {bTb : Nat → Int32} {wSh : Nat → Int64} {wTe : Nat → Int64} {wNx : Nat → Int64} {bOs : Nat → Int32} {bOn : Nat → Int32} {yop : Int32} {bSo : Nat → Int32} {bNu : Nat → Int32} {ytr : Int32} {yiw : Int32} {wMa : Nat → Int64} {wPr : Nat → Int64} {bTp : Nat → Int32} {yln : Int32} {ypl : Int32} {yfa : Int32} {wLi : Nat → Int64} {bSi : Nat → Int32} {yhp : Int32} {yhe : Int32} {yhg : Int32} {wHs : Nat → Int64} {yhi : Int32} {v1 : Int32} {v2 : Int32} {z : (Nat → Int32) × (Nat → Int32) × Int32}  (h : f_X5_opens bOs bOn yop v1 v2 = some z) : Ct l G yX5_opens cX5_opens 3 none 0 0 [.ref (q 0), .int v1, .int v2] (mW G q yp ye yg bPo bTb wSh wTe wNx bOs bOn yop bSo bNu ytr yiw wMa wPr bTp yln ypl yfa wLi bSi yhp yhe yhg wHs yhi ++ fr) (none) (mW G q yp ye yg bPo bTb wSh wTe wNx z.1 z.2.1 z.2.2 bSo bNu ytr yiw wMa wPr bTp yln ypl yfa wLi bSi yhp yhe yhg wHs yhi ++ fr) := by
  refine Ct.of (by decide +kernel) (Nat.le_of_ble_eq_true rfl) trivial ?_
  intro p e s m args below meth c Q A ls F hw hA hE hl
  have hx := F.x
  have hb := F.b
  unfold f_X5_opens at h
  obtain ⟨H, hH⟩ : ∃ H, H = s.heap := ⟨_, rfl⟩
  obtain ⟨locs, hlo⟩ : ∃ locs : List Loc, locs = [] := ⟨_, rfl⟩
  rw [← hH, ← hlo] at hw ⊢
  have hl : lv_has ls 3 [(0, .ref (q 0)), (1, .int v1), (2, .int v2)] := hl
  refine lv_aload_n hx hb dX5_opens_0 rfl (lv_at hl 0 rfl) ?_
  refine gf_5_28 F hw dX5_opens_1 ?_
  refine lv_aload_n hx hb dX5_opens_4 rfl (lv_at hl 0 rfl) ?_
  refine gf_5_147 F hw dX5_opens_5 ?_
  refine lv_iload_n hx hb dX5_opens_8 rfl (lv_at hl 1 rfl) ?_
  obtain ⟨g1, h⟩ := stG h
  refine as_m6 F hw g1 dX5_opens_9 (fun H locs hw => ?_)
  refine lv_aload_n hx hb dX5_opens_10 rfl (lv_at hl 0 rfl) ?_
  refine gf_5_31 F hw dX5_opens_11 ?_
  refine lv_aload_n hx hb dX5_opens_14 rfl (lv_at hl 0 rfl) ?_
  refine gf_5_147 F hw dX5_opens_15 ?_
  refine lv_iload_n hx hb dX5_opens_18 rfl (lv_at hl 2 rfl) ?_
  obtain ⟨g2, h⟩ := stG h
  refine as_m7 F hw g2 dX5_opens_19 (fun H locs hw => ?_)
  refine lv_aload_n hx hb dX5_opens_20 rfl (lv_at hl 0 rfl) ?_
  refine lv_dup hx hb dX5_opens_21 rfl ?_
  refine gf_5_147 F hw dX5_opens_22 ?_
  refine lv_iconst (v := 1) hx hb dX5_opens_25 (by decide) ?_
  refine lv_iadd hx hb dX5_opens_26 ?_
  refine pf_5_147 F hw dX5_opens_27 (fun H locs hw => ?_)
  obtain rfl := Option.some.inj h
  exact hE H locs _ ls hw dX5_opens_30
end
theorem dX5_wrong_0 : decode cX5_wrong 0 = .ok (.aload_n 0, 1) := by decide +kernel
theorem dX5_wrong_1 : decode cX5_wrong 1 = .ok (.iconst 1, 1) := by decide +kernel
theorem dX5_wrong_2 : decode cX5_wrong 2 = .ok (.putfield 150, 3) := by decide +kernel
theorem dX5_wrong_5 : decode cX5_wrong 5 = .ok (.aload_n 0, 1) := by decide +kernel
theorem dX5_wrong_6 : decode cX5_wrong 6 = .ok (.getfield 28, 3) := by decide +kernel
theorem dX5_wrong_9 : decode cX5_wrong 9 = .ok (.iconst 0, 1) := by decide +kernel
theorem dX5_wrong_10 : decode cX5_wrong 10 = .ok (.aload_n 0, 1) := by decide +kernel
theorem dX5_wrong_11 : decode cX5_wrong 11 = .ok (.getfield 34, 3) := by decide +kernel
theorem dX5_wrong_14 : decode cX5_wrong 14 = .ok (.iconst 0, 1) := by decide +kernel
theorem dX5_wrong_15 : decode cX5_wrong 15 = .ok (.aload_n 0, 1) := by decide +kernel
theorem dX5_wrong_16 : decode cX5_wrong 16 = .ok (.getfield 147, 3) := by decide +kernel
theorem dX5_wrong_19 : decode cX5_wrong 19 = .ok (.invokestatic 132, 3) := by decide +kernel
theorem dX5_wrong_22 : decode cX5_wrong 22 = .ok (.aload_n 0, 1) := by decide +kernel
theorem dX5_wrong_23 : decode cX5_wrong 23 = .ok (.getfield 31, 3) := by decide +kernel
theorem dX5_wrong_26 : decode cX5_wrong 26 = .ok (.iconst 0, 1) := by decide +kernel
theorem dX5_wrong_27 : decode cX5_wrong 27 = .ok (.aload_n 0, 1) := by decide +kernel
theorem dX5_wrong_28 : decode cX5_wrong 28 = .ok (.getfield 37, 3) := by decide +kernel
theorem dX5_wrong_31 : decode cX5_wrong 31 = .ok (.iconst 0, 1) := by decide +kernel
theorem dX5_wrong_32 : decode cX5_wrong 32 = .ok (.aload_n 0, 1) := by decide +kernel
theorem dX5_wrong_33 : decode cX5_wrong 33 = .ok (.getfield 147, 3) := by decide +kernel
theorem dX5_wrong_36 : decode cX5_wrong 36 = .ok (.invokestatic 132, 3) := by decide +kernel
theorem dX5_wrong_39 : decode cX5_wrong 39 = .ok (.aload_n 0, 1) := by decide +kernel
theorem dX5_wrong_40 : decode cX5_wrong 40 = .ok (.getfield 34, 3) := by decide +kernel
theorem dX5_wrong_43 : decode cX5_wrong 43 = .ok (.aload_n 0, 1) := by decide +kernel
theorem dX5_wrong_44 : decode cX5_wrong 44 = .ok (.getfield 147, 3) := by decide +kernel
theorem dX5_wrong_47 : decode cX5_wrong 47 = .ok (.iload_n 1, 1) := by decide +kernel
theorem dX5_wrong_48 : decode cX5_wrong 48 = .ok (.iastore, 1) := by decide +kernel
theorem dX5_wrong_49 : decode cX5_wrong 49 = .ok (.aload_n 0, 1) := by decide +kernel
theorem dX5_wrong_50 : decode cX5_wrong 50 = .ok (.getfield 37, 3) := by decide +kernel
theorem dX5_wrong_53 : decode cX5_wrong 53 = .ok (.aload_n 0, 1) := by decide +kernel
theorem dX5_wrong_54 : decode cX5_wrong 54 = .ok (.getfield 147, 3) := by decide +kernel
theorem dX5_wrong_57 : decode cX5_wrong 57 = .ok (.iload_n 2, 1) := by decide +kernel
theorem dX5_wrong_58 : decode cX5_wrong 58 = .ok (.iastore, 1) := by decide +kernel
theorem dX5_wrong_59 : decode cX5_wrong 59 = .ok (.aload_n 0, 1) := by decide +kernel
theorem dX5_wrong_60 : decode cX5_wrong 60 = .ok (.aload_n 0, 1) := by decide +kernel
theorem dX5_wrong_61 : decode cX5_wrong 61 = .ok (.getfield 147, 3) := by decide +kernel
theorem dX5_wrong_64 : decode cX5_wrong 64 = .ok (.iconst 1, 1) := by decide +kernel
theorem dX5_wrong_65 : decode cX5_wrong 65 = .ok (.iadd, 1) := by decide +kernel
theorem dX5_wrong_66 : decode cX5_wrong 66 = .ok (.putfield 154, 3) := by decide +kernel
theorem dX5_wrong_69 : decode cX5_wrong 69 = .ok (.return_, 1) := by decide +kernel
section
variable {p : Program} {l : Launch} {e : Env} {s : State} {m : MethodId} {args : Array Value} {below : List Frame} {meth : Method} {c : Code} {Q : State → Prop} {G : GG} {A : Nat → Prop} {q : Nat → Nat} {fr : va_W}
def f_X5_wrong (bOs : Nat → Int32) (bOn : Nat → Int32) (yop : Int32) (bSo : Nat → Int32) (bNu : Nat → Int32) (ytr : Int32) (yiw : Int32) (v1 : Int32) (v2 : Int32) : Option ((Nat → Int32) × (Nat → Int32) × Int32 × Int32) :=
  if cpk 0 0 yop 7 8 then
  if cpk 0 0 yop 7 8 then
  if inb yop 8 then
  if inb yop 8 then
  some ((upd (va_cpy bOs bSo (0 : Int32).toNatClampNeg (0 : Int32).toNatClampNeg yop.toNatClampNeg) yop.toNatClampNeg v1), (upd (va_cpy bOn bNu (0 : Int32).toNatClampNeg (0 : Int32).toNatClampNeg yop.toNatClampNeg) yop.toNatClampNeg v2), (yop + 1), 1)
  else none
  else none
  else none
  else none
set_option maxHeartbeats 4000000 in
set_option maxRecDepth 100000 in
theorem k_X5_wrong {l : Launch} {G : GG} {q : Nat → Nat} {fr : va_W}  {yp : Int32} {ye : Int32} {yg : Int32} {bPo : Nat → Int32} {bTb : Nat → Int32} {wSh : Nat → Int64} {wTe : Nat → Int64} {wNx : Nat → Int64} {bOs : Nat → Int32} {bOn : Nat → Int32} {yop : Int32} {bSo : Nat → Int32} {bNu : Nat → Int32} {ytr : Int32} {yiw : Int32} {wMa : Nat → Int64} {wPr : Nat → Int64} {bTp : Nat → Int32} {yln : Int32} {ypl : Int32} {yfa : Int32} {wLi : Nat → Int64} {bSi : Nat → Int32} {yhp : Int32} {yhe : Int32} {yhg : Int32} {wHs : Nat → Int64} {yhi : Int32} {v1 : Int32} {v2 : Int32} {z : (Nat → Int32) × (Nat → Int32) × Int32 × Int32}  (h : f_X5_wrong bOs bOn yop bSo bNu ytr yiw v1 v2 = some z) : Ct l G yX5_wrong cX5_wrong 3 none 1 80 [.ref (q 0), .int v1, .int v2] (mW G q yp ye yg bPo bTb wSh wTe wNx bOs bOn yop bSo bNu ytr yiw wMa wPr bTp yln ypl yfa wLi bSi yhp yhe yhg wHs yhi ++ fr) (none) (mW G q yp ye yg bPo bTb wSh wTe wNx bOs bOn yop z.1 z.2.1 z.2.2.1 z.2.2.2 wMa wPr bTp yln ypl yfa wLi bSi yhp yhe yhg wHs yhi ++ fr) := by
  refine Ct.of (by decide +kernel) (Nat.le_of_ble_eq_true rfl) trivial ?_
  intro p e s m args below meth c Q A ls F hw hA hE hl
  have hx := F.x
  have hb := F.b
  unfold f_X5_wrong at h
  obtain ⟨H, hH⟩ : ∃ H, H = s.heap := ⟨_, rfl⟩
  obtain ⟨locs, hlo⟩ : ∃ locs : List Loc, locs = [] := ⟨_, rfl⟩
  rw [← hH, ← hlo] at hw ⊢
  have hl : lv_has ls 3 [(0, .ref (q 0)), (1, .int v1), (2, .int v2)] := hl
  refine lv_aload_n hx hb dX5_wrong_0 rfl (lv_at hl 0 rfl) ?_
  refine lv_iconst (v := 1) hx hb dX5_wrong_1 (by decide) ?_
  refine pf_5_150 (by decide) F hw dX5_wrong_2 (fun H locs hw => ?_)
  refine lv_aload_n hx hb dX5_wrong_5 rfl (lv_at hl 0 rfl) ?_
  refine gf_5_28 F hw dX5_wrong_6 ?_
  refine lv_iconst (v := 0) hx hb dX5_wrong_9 (by decide) ?_
  refine lv_aload_n hx hb dX5_wrong_10 rfl (lv_at hl 0 rfl) ?_
  refine gf_5_34 F hw dX5_wrong_11 ?_
  refine lv_iconst (v := 0) hx hb dX5_wrong_14 (by decide) ?_
  refine lv_aload_n hx hb dX5_wrong_15 rfl (lv_at hl 0 rfl) ?_
  refine gf_5_147 F hw dX5_wrong_16 ?_
  obtain ⟨g1, h⟩ := stG h
  refine va_copyi F.x F.b (F.ml.trans hl.1.symm) F.ow (F.ts _ kac1) (F.ts _ kac2) (F.ts _ kac3) (F.ts _ kac4) hw.1 hw.2.1 hw.2.2.1 hw.2.2.2 6 8 0 0 (f := bOs) (g := bSo) (n0 := 7) (n1 := 8) (ty := .int) rfl rfl rfl rfl rfl (cpk1 g1) (cpk2 g1) (cpk3 g1) (cpk4 g1) (cpk5 g1) (fun _ _ => rfl) (by decide) (by decide) dX5_wrong_19 (fun H locs hP hD hS => ?_)
  have hw : Wd G s A (mW G q yp ye yg bPo bTb wSh wTe wNx bOs bOn yop (va_cpy bOs bSo (0 : Int32).toNatClampNeg (0 : Int32).toNatClampNeg yop.toNatClampNeg) bNu ytr 1 wMa wPr bTp yln ypl yfa wLi bSi yhp yhe yhg wHs yhi ++ fr) H locs := ⟨hw.1, hP, hD, hS⟩
  refine lv_aload_n hx hb dX5_wrong_22 rfl (lv_at hl 0 rfl) ?_
  refine gf_5_31 F hw dX5_wrong_23 ?_
  refine lv_iconst (v := 0) hx hb dX5_wrong_26 (by decide) ?_
  refine lv_aload_n hx hb dX5_wrong_27 rfl (lv_at hl 0 rfl) ?_
  refine gf_5_37 F hw dX5_wrong_28 ?_
  refine lv_iconst (v := 0) hx hb dX5_wrong_31 (by decide) ?_
  refine lv_aload_n hx hb dX5_wrong_32 rfl (lv_at hl 0 rfl) ?_
  refine gf_5_147 F hw dX5_wrong_33 ?_
  obtain ⟨g2, h⟩ := stG h
  refine va_copyi F.x F.b (F.ml.trans hl.1.symm) F.ow (F.ts _ kac1) (F.ts _ kac2) (F.ts _ kac3) (F.ts _ kac4) hw.1 hw.2.1 hw.2.2.1 hw.2.2.2 7 9 0 0 (f := bOn) (g := bNu) (n0 := 7) (n1 := 8) (ty := .int) rfl rfl rfl rfl rfl (cpk1 g2) (cpk2 g2) (cpk3 g2) (cpk4 g2) (cpk5 g2) (fun _ _ => rfl) (by decide) (by decide) dX5_wrong_36 (fun H locs hP hD hS => ?_)
  have hw : Wd G s A (mW G q yp ye yg bPo bTb wSh wTe wNx bOs bOn yop (va_cpy bOs bSo (0 : Int32).toNatClampNeg (0 : Int32).toNatClampNeg yop.toNatClampNeg) (va_cpy bOn bNu (0 : Int32).toNatClampNeg (0 : Int32).toNatClampNeg yop.toNatClampNeg) ytr 1 wMa wPr bTp yln ypl yfa wLi bSi yhp yhe yhg wHs yhi ++ fr) H locs := ⟨hw.1, hP, hD, hS⟩
  refine lv_aload_n hx hb dX5_wrong_39 rfl (lv_at hl 0 rfl) ?_
  refine gf_5_34 F hw dX5_wrong_40 ?_
  refine lv_aload_n hx hb dX5_wrong_43 rfl (lv_at hl 0 rfl) ?_
  refine gf_5_147 F hw dX5_wrong_44 ?_
  refine lv_iload_n hx hb dX5_wrong_47 rfl (lv_at hl 1 rfl) ?_
  obtain ⟨g3, h⟩ := stG h
  refine as_m8 F hw g3 dX5_wrong_48 (fun H locs hw => ?_)
  refine lv_aload_n hx hb dX5_wrong_49 rfl (lv_at hl 0 rfl) ?_
  refine gf_5_37 F hw dX5_wrong_50 ?_
  refine lv_aload_n hx hb dX5_wrong_53 rfl (lv_at hl 0 rfl) ?_
  refine gf_5_147 F hw dX5_wrong_54 ?_
  refine lv_iload_n hx hb dX5_wrong_57 rfl (lv_at hl 2 rfl) ?_
  obtain ⟨g4, h⟩ := stG h
  refine as_m9 F hw g4 dX5_wrong_58 (fun H locs hw => ?_)
  refine lv_aload_n hx hb dX5_wrong_59 rfl (lv_at hl 0 rfl) ?_
  refine lv_aload_n hx hb dX5_wrong_60 rfl (lv_at hl 0 rfl) ?_
  refine gf_5_147 F hw dX5_wrong_61 ?_
  refine lv_iconst (v := 1) hx hb dX5_wrong_64 (by decide) ?_
  refine lv_iadd hx hb dX5_wrong_65 ?_
  refine pf_5_154 F hw dX5_wrong_66 (fun H locs hw => ?_)
  obtain rfl := Option.some.inj h
  exact hE H locs _ ls hw dX5_wrong_69
end
theorem dX5_isSumOver_0 : decode cX5_isSumOver 0 = .ok (.lload_n 0, 1) := by decide +kernel
theorem dX5_isSumOver_1 : decode cX5_isSumOver 1 = .ok (.lload_n 2, 1) := by decide +kernel
theorem dX5_isSumOver_2 : decode cX5_isSumOver 2 = .ok (.ladd, 1) := by decide +kernel
theorem dX5_isSumOver_3 : decode cX5_isSumOver 3 = .ok (.lstore 4, 2) := by decide +kernel
theorem dX5_isSumOver_5 : decode cX5_isSumOver 5 = .ok (.lload_n 0, 1) := by decide +kernel
theorem dX5_isSumOver_6 : decode cX5_isSumOver 6 = .ok (.lload 4, 2) := by decide +kernel
theorem dX5_isSumOver_8 : decode cX5_isSumOver 8 = .ok (.lxor, 1) := by decide +kernel
theorem dX5_isSumOver_9 : decode cX5_isSumOver 9 = .ok (.lconst 0, 1) := by decide +kernel
theorem dX5_isSumOver_10 : decode cX5_isSumOver 10 = .ok (.lcmp, 1) := by decide +kernel
theorem dX5_isSumOver_11 : decode cX5_isSumOver 11 = .ok (.ifCond .ge 16, 3) := by decide +kernel
theorem dX5_isSumOver_14 : decode cX5_isSumOver 14 = .ok (.lload_n 2, 1) := by decide +kernel
theorem dX5_isSumOver_15 : decode cX5_isSumOver 15 = .ok (.lload 4, 2) := by decide +kernel
theorem dX5_isSumOver_17 : decode cX5_isSumOver 17 = .ok (.lxor, 1) := by decide +kernel
theorem dX5_isSumOver_18 : decode cX5_isSumOver 18 = .ok (.lconst 0, 1) := by decide +kernel
theorem dX5_isSumOver_19 : decode cX5_isSumOver 19 = .ok (.lcmp, 1) := by decide +kernel
theorem dX5_isSumOver_20 : decode cX5_isSumOver 20 = .ok (.ifCond .ge 7, 3) := by decide +kernel
theorem dX5_isSumOver_23 : decode cX5_isSumOver 23 = .ok (.iconst 1, 1) := by decide +kernel
theorem dX5_isSumOver_24 : decode cX5_isSumOver 24 = .ok (.goto 4, 3) := by decide +kernel
theorem dX5_isSumOver_27 : decode cX5_isSumOver 27 = .ok (.iconst 0, 1) := by decide +kernel
theorem dX5_isSumOver_28 : decode cX5_isSumOver 28 = .ok (.ireturn, 1) := by decide +kernel
section
variable {p : Program} {l : Launch} {e : Env} {s : State} {m : MethodId} {args : Array Value} {below : List Frame} {meth : Method} {c : Code} {Q : State → Prop} {G : GG} {A : Nat → Prop} {q : Nat → Nat} {fr : va_W}
def f_X5_isSumOver (v0 : Int64) (v2 : Int64) : Option (Int32) :=
  if 0 ≤ (lg_cmp (v0 ^^^ (v0 + v2)) 0) then
  some 0
  else
  if 0 ≤ (lg_cmp (v2 ^^^ (v0 + v2)) 0) then
  some 0
  else
  some 1
set_option maxHeartbeats 4000000 in
set_option maxRecDepth 100000 in
theorem k_X5_isSumOver {l : Launch} {G : GG} {fr : va_W}   {v0 : Int64} {v2 : Int64} {z : Int32}  (h : f_X5_isSumOver v0 v2 = some z) : Ct l G yX5_isSumOver cX5_isSumOver 6 (some .boolean) 0 0 [.long v0, .long v2] fr (some (.int z)) fr := by
  refine Ct.of (by decide +kernel) (Nat.le_of_ble_eq_true rfl) trivial ?_
  intro p e s m args below meth c Q A ls F hw hA hE hl
  have hx := F.x
  have hb := F.b
  unfold f_X5_isSumOver at h
  obtain ⟨H, hH⟩ : ∃ H, H = s.heap := ⟨_, rfl⟩
  obtain ⟨locs, hlo⟩ : ∃ locs : List Loc, locs = [] := ⟨_, rfl⟩
  rw [← hH, ← hlo] at hw ⊢
  have hl : lv_has ls 6 [(0, .long v0), (2, .long v2)] := hl
  refine lv_lload_n hx hb dX5_isSumOver_0 rfl (lv_at hl 0 rfl) ?_
  refine lv_lload_n hx hb dX5_isSumOver_1 rfl (lv_at hl 1 rfl) ?_
  refine lv_ladd hx hb dX5_isSumOver_2 ?_
  refine lv_lstore (lv' := [(4, .long (v0 + v2)), (0, .long v0), (2, .long v2)]) hx hb dX5_isSumOver_3 hl (by decide) rfl (fun ls hl => ?_)
  refine lv_lload_n hx hb dX5_isSumOver_5 rfl (lv_at hl 1 rfl) ?_
  refine lv_lload hx hb dX5_isSumOver_6 (lv_at hl 0 rfl) ?_
  refine lv_lxor hx hb dX5_isSumOver_8 ?_
  refine lv_lconst (v := 0) hx hb dX5_isSumOver_9 (by decide) ?_
  refine W.lcmp hx hb dX5_isSumOver_10 ?_
  refine lv_if_ge (tgt := 27) hx hb dX5_isSumOver_11 (by decide) (fun c1 => ?_) (fun c1 => ?_)
  · replace h := stT c1 h
    refine lv_iconst (v := 0) hx hb dX5_isSumOver_27 (by decide) ?_
    obtain rfl := Option.some.inj h
    exact hE H locs _ ls hw (Or.inl rfl) dX5_isSumOver_28
  · replace h := stF c1 h
    refine lv_lload_n hx hb dX5_isSumOver_14 rfl (lv_at hl 2 rfl) ?_
    refine lv_lload hx hb dX5_isSumOver_15 (lv_at hl 0 rfl) ?_
    refine lv_lxor hx hb dX5_isSumOver_17 ?_
    refine lv_lconst (v := 0) hx hb dX5_isSumOver_18 (by decide) ?_
    refine W.lcmp hx hb dX5_isSumOver_19 ?_
    refine lv_if_ge (tgt := 27) hx hb dX5_isSumOver_20 (by decide) (fun c2 => ?_) (fun c2 => ?_)
    · replace h := stT c2 h
      refine lv_iconst (v := 0) hx hb dX5_isSumOver_27 (by decide) ?_
      obtain rfl := Option.some.inj h
      exact hE H locs _ ls hw (Or.inl rfl) dX5_isSumOver_28
    · replace h := stF c2 h
      refine lv_iconst (v := 1) hx hb dX5_isSumOver_23 (by decide) ?_
      refine lv_goto (tgt := 28) hx hb dX5_isSumOver_24 (by decide) ?_
      obtain rfl := Option.some.inj h
      exact hE H locs _ ls hw (Or.inr rfl) dX5_isSumOver_28
end
theorem dX5_isLessOver_0 : decode cX5_isLessOver 0 = .ok (.lload_n 0, 1) := by decide +kernel
theorem dX5_isLessOver_1 : decode cX5_isLessOver 1 = .ok (.lload_n 2, 1) := by decide +kernel
theorem dX5_isLessOver_2 : decode cX5_isLessOver 2 = .ok (.lsub, 1) := by decide +kernel
theorem dX5_isLessOver_3 : decode cX5_isLessOver 3 = .ok (.lstore 4, 2) := by decide +kernel
theorem dX5_isLessOver_5 : decode cX5_isLessOver 5 = .ok (.lload_n 0, 1) := by decide +kernel
theorem dX5_isLessOver_6 : decode cX5_isLessOver 6 = .ok (.lload_n 2, 1) := by decide +kernel
theorem dX5_isLessOver_7 : decode cX5_isLessOver 7 = .ok (.lxor, 1) := by decide +kernel
theorem dX5_isLessOver_8 : decode cX5_isLessOver 8 = .ok (.lconst 0, 1) := by decide +kernel
theorem dX5_isLessOver_9 : decode cX5_isLessOver 9 = .ok (.lcmp, 1) := by decide +kernel
theorem dX5_isLessOver_10 : decode cX5_isLessOver 10 = .ok (.ifCond .ge 16, 3) := by decide +kernel
theorem dX5_isLessOver_13 : decode cX5_isLessOver 13 = .ok (.lload_n 0, 1) := by decide +kernel
theorem dX5_isLessOver_14 : decode cX5_isLessOver 14 = .ok (.lload 4, 2) := by decide +kernel
theorem dX5_isLessOver_16 : decode cX5_isLessOver 16 = .ok (.lxor, 1) := by decide +kernel
theorem dX5_isLessOver_17 : decode cX5_isLessOver 17 = .ok (.lconst 0, 1) := by decide +kernel
theorem dX5_isLessOver_18 : decode cX5_isLessOver 18 = .ok (.lcmp, 1) := by decide +kernel
theorem dX5_isLessOver_19 : decode cX5_isLessOver 19 = .ok (.ifCond .ge 7, 3) := by decide +kernel
theorem dX5_isLessOver_22 : decode cX5_isLessOver 22 = .ok (.iconst 1, 1) := by decide +kernel
theorem dX5_isLessOver_23 : decode cX5_isLessOver 23 = .ok (.goto 4, 3) := by decide +kernel
theorem dX5_isLessOver_26 : decode cX5_isLessOver 26 = .ok (.iconst 0, 1) := by decide +kernel
theorem dX5_isLessOver_27 : decode cX5_isLessOver 27 = .ok (.ireturn, 1) := by decide +kernel
section
variable {p : Program} {l : Launch} {e : Env} {s : State} {m : MethodId} {args : Array Value} {below : List Frame} {meth : Method} {c : Code} {Q : State → Prop} {G : GG} {A : Nat → Prop} {q : Nat → Nat} {fr : va_W}
def f_X5_isLessOver (v0 : Int64) (v2 : Int64) : Option (Int32) :=
  if 0 ≤ (lg_cmp (v0 ^^^ v2) 0) then
  some 0
  else
  if 0 ≤ (lg_cmp (v0 ^^^ (v0 - v2)) 0) then
  some 0
  else
  some 1
set_option maxHeartbeats 4000000 in
set_option maxRecDepth 100000 in
theorem k_X5_isLessOver {l : Launch} {G : GG} {fr : va_W}   {v0 : Int64} {v2 : Int64} {z : Int32}  (h : f_X5_isLessOver v0 v2 = some z) : Ct l G yX5_isLessOver cX5_isLessOver 6 (some .boolean) 0 0 [.long v0, .long v2] fr (some (.int z)) fr := by
  refine Ct.of (by decide +kernel) (Nat.le_of_ble_eq_true rfl) trivial ?_
  intro p e s m args below meth c Q A ls F hw hA hE hl
  have hx := F.x
  have hb := F.b
  unfold f_X5_isLessOver at h
  obtain ⟨H, hH⟩ : ∃ H, H = s.heap := ⟨_, rfl⟩
  obtain ⟨locs, hlo⟩ : ∃ locs : List Loc, locs = [] := ⟨_, rfl⟩
  rw [← hH, ← hlo] at hw ⊢
  have hl : lv_has ls 6 [(0, .long v0), (2, .long v2)] := hl
  refine lv_lload_n hx hb dX5_isLessOver_0 rfl (lv_at hl 0 rfl) ?_
  refine lv_lload_n hx hb dX5_isLessOver_1 rfl (lv_at hl 1 rfl) ?_
  refine lv_lsub hx hb dX5_isLessOver_2 ?_
  refine lv_lstore (lv' := [(4, .long (v0 - v2)), (0, .long v0), (2, .long v2)]) hx hb dX5_isLessOver_3 hl (by decide) rfl (fun ls hl => ?_)
  refine lv_lload_n hx hb dX5_isLessOver_5 rfl (lv_at hl 1 rfl) ?_
  refine lv_lload_n hx hb dX5_isLessOver_6 rfl (lv_at hl 2 rfl) ?_
  refine lv_lxor hx hb dX5_isLessOver_7 ?_
  refine lv_lconst (v := 0) hx hb dX5_isLessOver_8 (by decide) ?_
  refine W.lcmp hx hb dX5_isLessOver_9 ?_
  refine lv_if_ge (tgt := 26) hx hb dX5_isLessOver_10 (by decide) (fun c1 => ?_) (fun c1 => ?_)
  · replace h := stT c1 h
    refine lv_iconst (v := 0) hx hb dX5_isLessOver_26 (by decide) ?_
    obtain rfl := Option.some.inj h
    exact hE H locs _ ls hw (Or.inl rfl) dX5_isLessOver_27
  · replace h := stF c1 h
    refine lv_lload_n hx hb dX5_isLessOver_13 rfl (lv_at hl 1 rfl) ?_
    refine lv_lload hx hb dX5_isLessOver_14 (lv_at hl 0 rfl) ?_
    refine lv_lxor hx hb dX5_isLessOver_16 ?_
    refine lv_lconst (v := 0) hx hb dX5_isLessOver_17 (by decide) ?_
    refine W.lcmp hx hb dX5_isLessOver_18 ?_
    refine lv_if_ge (tgt := 26) hx hb dX5_isLessOver_19 (by decide) (fun c2 => ?_) (fun c2 => ?_)
    · replace h := stT c2 h
      refine lv_iconst (v := 0) hx hb dX5_isLessOver_26 (by decide) ?_
      obtain rfl := Option.some.inj h
      exact hE H locs _ ls hw (Or.inl rfl) dX5_isLessOver_27
    · replace h := stF c2 h
      refine lv_iconst (v := 1) hx hb dX5_isLessOver_22 (by decide) ?_
      refine lv_goto (tgt := 27) hx hb dX5_isLessOver_23 (by decide) ?_
      obtain rfl := Option.some.inj h
      exact hE H locs _ ls hw (Or.inr rfl) dX5_isLessOver_27
end
theorem dX5_isProductOver_0 : decode cX5_isProductOver 0 = .ok (.lload_n 0, 1) := by decide +kernel
theorem dX5_isProductOver_1 : decode cX5_isProductOver 1 = .ok (.lconst 0, 1) := by decide +kernel
theorem dX5_isProductOver_2 : decode cX5_isProductOver 2 = .ok (.lcmp, 1) := by decide +kernel
theorem dX5_isProductOver_3 : decode cX5_isProductOver 3 = .ok (.ifCond .eq 9, 3) := by decide +kernel
theorem dX5_isProductOver_6 : decode cX5_isProductOver 6 = .ok (.lload_n 2, 1) := by decide +kernel
theorem dX5_isProductOver_7 : decode cX5_isProductOver 7 = .ok (.lconst 0, 1) := by decide +kernel
theorem dX5_isProductOver_8 : decode cX5_isProductOver 8 = .ok (.lcmp, 1) := by decide +kernel
theorem dX5_isProductOver_9 : decode cX5_isProductOver 9 = .ok (.ifCond .ne 5, 3) := by decide +kernel
theorem dX5_isProductOver_12 : decode cX5_isProductOver 12 = .ok (.iconst 0, 1) := by decide +kernel
theorem dX5_isProductOver_13 : decode cX5_isProductOver 13 = .ok (.ireturn, 1) := by decide +kernel
theorem dX5_isProductOver_14 : decode cX5_isProductOver 14 = .ok (.lload_n 0, 1) := by decide +kernel
theorem dX5_isProductOver_15 : decode cX5_isProductOver 15 = .ok (.lload_n 2, 1) := by decide +kernel
theorem dX5_isProductOver_16 : decode cX5_isProductOver 16 = .ok (.lmul, 1) := by decide +kernel
theorem dX5_isProductOver_17 : decode cX5_isProductOver 17 = .ok (.lstore 4, 2) := by decide +kernel
theorem dX5_isProductOver_19 : decode cX5_isProductOver 19 = .ok (.lload_n 0, 1) := by decide +kernel
theorem dX5_isProductOver_20 : decode cX5_isProductOver 20 = .ok (.ldc2_w 130, 3) := by decide +kernel
theorem dX5_isProductOver_23 : decode cX5_isProductOver 23 = .ok (.lcmp, 1) := by decide +kernel
theorem dX5_isProductOver_24 : decode cX5_isProductOver 24 = .ok (.ifCond .ne 11, 3) := by decide +kernel
theorem dX5_isProductOver_27 : decode cX5_isProductOver 27 = .ok (.lload_n 2, 1) := by decide +kernel
theorem dX5_isProductOver_28 : decode cX5_isProductOver 28 = .ok (.ldc2_w 138, 3) := by decide +kernel
theorem dX5_isProductOver_31 : decode cX5_isProductOver 31 = .ok (.lcmp, 1) := by decide +kernel
theorem dX5_isProductOver_32 : decode cX5_isProductOver 32 = .ok (.ifCond .eq 28, 3) := by decide +kernel
theorem dX5_isProductOver_35 : decode cX5_isProductOver 35 = .ok (.lload_n 2, 1) := by decide +kernel
theorem dX5_isProductOver_36 : decode cX5_isProductOver 36 = .ok (.ldc2_w 130, 3) := by decide +kernel
theorem dX5_isProductOver_39 : decode cX5_isProductOver 39 = .ok (.lcmp, 1) := by decide +kernel
theorem dX5_isProductOver_40 : decode cX5_isProductOver 40 = .ok (.ifCond .ne 11, 3) := by decide +kernel
theorem dX5_isProductOver_43 : decode cX5_isProductOver 43 = .ok (.lload_n 0, 1) := by decide +kernel
theorem dX5_isProductOver_44 : decode cX5_isProductOver 44 = .ok (.ldc2_w 138, 3) := by decide +kernel
theorem dX5_isProductOver_47 : decode cX5_isProductOver 47 = .ok (.lcmp, 1) := by decide +kernel
theorem dX5_isProductOver_48 : decode cX5_isProductOver 48 = .ok (.ifCond .eq 12, 3) := by decide +kernel
theorem dX5_isProductOver_51 : decode cX5_isProductOver 51 = .ok (.lload 4, 2) := by decide +kernel
theorem dX5_isProductOver_53 : decode cX5_isProductOver 53 = .ok (.lload_n 2, 1) := by decide +kernel
theorem dX5_isProductOver_54 : decode cX5_isProductOver 54 = .ok (.ldiv, 1) := by decide +kernel
theorem dX5_isProductOver_55 : decode cX5_isProductOver 55 = .ok (.lload_n 0, 1) := by decide +kernel
theorem dX5_isProductOver_56 : decode cX5_isProductOver 56 = .ok (.lcmp, 1) := by decide +kernel
theorem dX5_isProductOver_57 : decode cX5_isProductOver 57 = .ok (.ifCond .eq 7, 3) := by decide +kernel
theorem dX5_isProductOver_60 : decode cX5_isProductOver 60 = .ok (.iconst 1, 1) := by decide +kernel
theorem dX5_isProductOver_61 : decode cX5_isProductOver 61 = .ok (.goto 4, 3) := by decide +kernel
theorem dX5_isProductOver_64 : decode cX5_isProductOver 64 = .ok (.iconst 0, 1) := by decide +kernel
theorem dX5_isProductOver_65 : decode cX5_isProductOver 65 = .ok (.ireturn, 1) := by decide +kernel
section
variable {p : Program} {l : Launch} {e : Env} {s : State} {m : MethodId} {args : Array Value} {below : List Frame} {meth : Method} {c : Code} {Q : State → Prop} {G : GG} {A : Nat → Prop} {q : Nat → Nat} {fr : va_W}
def f_X5_isProductOver (v0 : Int64) (v2 : Int64) : Option (Int32) :=
  if (lg_cmp v0 0) = 0 then
  some 0
  else
  if (lg_cmp v2 0) = 0 then
  some 0
  else
  if (lg_cmp v0 (-1)) = 0 then
  if (lg_cmp v2 (-9223372036854775808)) = 0 then
  some 1
  else
  if (lg_cmp v2 (-1)) = 0 then
  if (lg_cmp v0 (-9223372036854775808)) = 0 then
  some 1
  else
  if v2 = 0 then none else
  if (lg_cmp ((v0 * v2) / v2) v0) = 0 then
  some 0
  else
  some 1
  else
  if v2 = 0 then none else
  if (lg_cmp ((v0 * v2) / v2) v0) = 0 then
  some 0
  else
  some 1
  else
  if (lg_cmp v2 (-1)) = 0 then
  if (lg_cmp v0 (-9223372036854775808)) = 0 then
  some 1
  else
  if v2 = 0 then none else
  if (lg_cmp ((v0 * v2) / v2) v0) = 0 then
  some 0
  else
  some 1
  else
  if v2 = 0 then none else
  if (lg_cmp ((v0 * v2) / v2) v0) = 0 then
  some 0
  else
  some 1
set_option maxHeartbeats 4000000 in
set_option maxRecDepth 100000 in
theorem k_X5_isProductOver {l : Launch} {G : GG} {fr : va_W}   {v0 : Int64} {v2 : Int64} {z : Int32}  (h : f_X5_isProductOver v0 v2 = some z) : Ct l G yX5_isProductOver cX5_isProductOver 6 (some .boolean) 0 0 [.long v0, .long v2] fr (some (.int z)) fr := by
  refine Ct.of (by decide +kernel) (Nat.le_of_ble_eq_true rfl) trivial ?_
  intro p e s m args below meth c Q A ls F hw hA hE hl
  have hx := F.x
  have hb := F.b
  unfold f_X5_isProductOver at h
  obtain ⟨H, hH⟩ : ∃ H, H = s.heap := ⟨_, rfl⟩
  obtain ⟨locs, hlo⟩ : ∃ locs : List Loc, locs = [] := ⟨_, rfl⟩
  rw [← hH, ← hlo] at hw ⊢
  have hl : lv_has ls 6 [(0, .long v0), (2, .long v2)] := hl
  refine lv_lload_n hx hb dX5_isProductOver_0 rfl (lv_at hl 0 rfl) ?_
  refine lv_lconst (v := 0) hx hb dX5_isProductOver_1 (by decide) ?_
  refine W.lcmp hx hb dX5_isProductOver_2 ?_
  refine lv_if_eq (tgt := 12) hx hb dX5_isProductOver_3 (by decide) (fun c1 => ?_) (fun c1 => ?_)
  · replace h := stT c1 h
    refine lv_iconst (v := 0) hx hb dX5_isProductOver_12 (by decide) ?_
    obtain rfl := Option.some.inj h
    exact hE H locs _ ls hw (Or.inl rfl) dX5_isProductOver_13
  · replace h := stF c1 h
    refine lv_lload_n hx hb dX5_isProductOver_6 rfl (lv_at hl 1 rfl) ?_
    refine lv_lconst (v := 0) hx hb dX5_isProductOver_7 (by decide) ?_
    refine W.lcmp hx hb dX5_isProductOver_8 ?_
    refine lv_if_ne (tgt := 14) hx hb dX5_isProductOver_9 (by decide) (fun c2 => ?_) (fun c2 => ?_)
    · replace h := stF c2 h
      refine lv_lload_n hx hb dX5_isProductOver_14 rfl (lv_at hl 0 rfl) ?_
      refine lv_lload_n hx hb dX5_isProductOver_15 rfl (lv_at hl 1 rfl) ?_
      refine lv_lmul hx hb dX5_isProductOver_16 ?_
      refine lv_lstore (lv' := [(4, .long (v0 * v2)), (0, .long v0), (2, .long v2)]) hx hb dX5_isProductOver_17 hl (by decide) rfl (fun ls hl => ?_)
      refine lv_lload_n hx hb dX5_isProductOver_19 rfl (lv_at hl 1 rfl) ?_
      refine lv_ldc2 (v := -1) hx hb F.ow (F.ts _ kc_5_130) dX5_isProductOver_20 ?_
      refine W.lcmp hx hb dX5_isProductOver_23 ?_
      refine lv_if_ne (tgt := 35) hx hb dX5_isProductOver_24 (by decide) (fun c3 => ?_) (fun c3 => ?_)
      · replace h := stF c3 h
        refine lv_lload_n hx hb dX5_isProductOver_35 rfl (lv_at hl 2 rfl) ?_
        refine lv_ldc2 (v := -1) hx hb F.ow (F.ts _ kc_5_130) dX5_isProductOver_36 ?_
        refine W.lcmp hx hb dX5_isProductOver_39 ?_
        refine lv_if_ne (tgt := 51) hx hb dX5_isProductOver_40 (by decide) (fun c4 => ?_) (fun c4 => ?_)
        · replace h := stF c4 h
          refine lv_lload hx hb dX5_isProductOver_51 (lv_at hl 0 rfl) ?_
          refine lv_lload_n hx hb dX5_isProductOver_53 rfl (lv_at hl 2 rfl) ?_
          obtain ⟨g5, h⟩ := stD h
          refine lv_ldiv hx hb dX5_isProductOver_54 g5 ?_
          refine lv_lload_n hx hb dX5_isProductOver_55 rfl (lv_at hl 1 rfl) ?_
          refine W.lcmp hx hb dX5_isProductOver_56 ?_
          refine lv_if_eq (tgt := 64) hx hb dX5_isProductOver_57 (by decide) (fun c6 => ?_) (fun c6 => ?_)
          · replace h := stT c6 h
            refine lv_iconst (v := 0) hx hb dX5_isProductOver_64 (by decide) ?_
            obtain rfl := Option.some.inj h
            exact hE H locs _ ls hw (Or.inl rfl) dX5_isProductOver_65
          · replace h := stF c6 h
            refine lv_iconst (v := 1) hx hb dX5_isProductOver_60 (by decide) ?_
            refine lv_goto (tgt := 65) hx hb dX5_isProductOver_61 (by decide) ?_
            obtain rfl := Option.some.inj h
            exact hE H locs _ ls hw (Or.inr rfl) dX5_isProductOver_65
        · replace h := stT c4 h
          refine lv_lload_n hx hb dX5_isProductOver_43 rfl (lv_at hl 1 rfl) ?_
          refine lv_ldc2 (v := -9223372036854775808) hx hb F.ow (F.ts _ kc_5_138) dX5_isProductOver_44 ?_
          refine W.lcmp hx hb dX5_isProductOver_47 ?_
          refine lv_if_eq (tgt := 60) hx hb dX5_isProductOver_48 (by decide) (fun c7 => ?_) (fun c7 => ?_)
          · replace h := stT c7 h
            refine lv_iconst (v := 1) hx hb dX5_isProductOver_60 (by decide) ?_
            refine lv_goto (tgt := 65) hx hb dX5_isProductOver_61 (by decide) ?_
            obtain rfl := Option.some.inj h
            exact hE H locs _ ls hw (Or.inr rfl) dX5_isProductOver_65
          · replace h := stF c7 h
            refine lv_lload hx hb dX5_isProductOver_51 (lv_at hl 0 rfl) ?_
            refine lv_lload_n hx hb dX5_isProductOver_53 rfl (lv_at hl 2 rfl) ?_
            obtain ⟨g8, h⟩ := stD h
            refine lv_ldiv hx hb dX5_isProductOver_54 g8 ?_
            refine lv_lload_n hx hb dX5_isProductOver_55 rfl (lv_at hl 1 rfl) ?_
            refine W.lcmp hx hb dX5_isProductOver_56 ?_
            refine lv_if_eq (tgt := 64) hx hb dX5_isProductOver_57 (by decide) (fun c9 => ?_) (fun c9 => ?_)
            · replace h := stT c9 h
              refine lv_iconst (v := 0) hx hb dX5_isProductOver_64 (by decide) ?_
              obtain rfl := Option.some.inj h
              exact hE H locs _ ls hw (Or.inl rfl) dX5_isProductOver_65
            · replace h := stF c9 h
              refine lv_iconst (v := 1) hx hb dX5_isProductOver_60 (by decide) ?_
              refine lv_goto (tgt := 65) hx hb dX5_isProductOver_61 (by decide) ?_
              obtain rfl := Option.some.inj h
              exact hE H locs _ ls hw (Or.inr rfl) dX5_isProductOver_65
      · replace h := stT c3 h
        refine lv_lload_n hx hb dX5_isProductOver_27 rfl (lv_at hl 2 rfl) ?_
        refine lv_ldc2 (v := -9223372036854775808) hx hb F.ow (F.ts _ kc_5_138) dX5_isProductOver_28 ?_
        refine W.lcmp hx hb dX5_isProductOver_31 ?_
        refine lv_if_eq (tgt := 60) hx hb dX5_isProductOver_32 (by decide) (fun c10 => ?_) (fun c10 => ?_)
        · replace h := stT c10 h
          refine lv_iconst (v := 1) hx hb dX5_isProductOver_60 (by decide) ?_
          refine lv_goto (tgt := 65) hx hb dX5_isProductOver_61 (by decide) ?_
          obtain rfl := Option.some.inj h
          exact hE H locs _ ls hw (Or.inr rfl) dX5_isProductOver_65
        · replace h := stF c10 h
          refine lv_lload_n hx hb dX5_isProductOver_35 rfl (lv_at hl 2 rfl) ?_
          refine lv_ldc2 (v := -1) hx hb F.ow (F.ts _ kc_5_130) dX5_isProductOver_36 ?_
          refine W.lcmp hx hb dX5_isProductOver_39 ?_
          refine lv_if_ne (tgt := 51) hx hb dX5_isProductOver_40 (by decide) (fun c11 => ?_) (fun c11 => ?_)
          · replace h := stF c11 h
            refine lv_lload hx hb dX5_isProductOver_51 (lv_at hl 0 rfl) ?_
            refine lv_lload_n hx hb dX5_isProductOver_53 rfl (lv_at hl 2 rfl) ?_
            obtain ⟨g12, h⟩ := stD h
            refine lv_ldiv hx hb dX5_isProductOver_54 g12 ?_
            refine lv_lload_n hx hb dX5_isProductOver_55 rfl (lv_at hl 1 rfl) ?_
            refine W.lcmp hx hb dX5_isProductOver_56 ?_
            refine lv_if_eq (tgt := 64) hx hb dX5_isProductOver_57 (by decide) (fun c13 => ?_) (fun c13 => ?_)
            · replace h := stT c13 h
              refine lv_iconst (v := 0) hx hb dX5_isProductOver_64 (by decide) ?_
              obtain rfl := Option.some.inj h
              exact hE H locs _ ls hw (Or.inl rfl) dX5_isProductOver_65
            · replace h := stF c13 h
              refine lv_iconst (v := 1) hx hb dX5_isProductOver_60 (by decide) ?_
              refine lv_goto (tgt := 65) hx hb dX5_isProductOver_61 (by decide) ?_
              obtain rfl := Option.some.inj h
              exact hE H locs _ ls hw (Or.inr rfl) dX5_isProductOver_65
          · replace h := stT c11 h
            refine lv_lload_n hx hb dX5_isProductOver_43 rfl (lv_at hl 1 rfl) ?_
            refine lv_ldc2 (v := -9223372036854775808) hx hb F.ow (F.ts _ kc_5_138) dX5_isProductOver_44 ?_
            refine W.lcmp hx hb dX5_isProductOver_47 ?_
            refine lv_if_eq (tgt := 60) hx hb dX5_isProductOver_48 (by decide) (fun c14 => ?_) (fun c14 => ?_)
            · replace h := stT c14 h
              refine lv_iconst (v := 1) hx hb dX5_isProductOver_60 (by decide) ?_
              refine lv_goto (tgt := 65) hx hb dX5_isProductOver_61 (by decide) ?_
              obtain rfl := Option.some.inj h
              exact hE H locs _ ls hw (Or.inr rfl) dX5_isProductOver_65
            · replace h := stF c14 h
              refine lv_lload hx hb dX5_isProductOver_51 (lv_at hl 0 rfl) ?_
              refine lv_lload_n hx hb dX5_isProductOver_53 rfl (lv_at hl 2 rfl) ?_
              obtain ⟨g15, h⟩ := stD h
              refine lv_ldiv hx hb dX5_isProductOver_54 g15 ?_
              refine lv_lload_n hx hb dX5_isProductOver_55 rfl (lv_at hl 1 rfl) ?_
              refine W.lcmp hx hb dX5_isProductOver_56 ?_
              refine lv_if_eq (tgt := 64) hx hb dX5_isProductOver_57 (by decide) (fun c16 => ?_) (fun c16 => ?_)
              · replace h := stT c16 h
                refine lv_iconst (v := 0) hx hb dX5_isProductOver_64 (by decide) ?_
                obtain rfl := Option.some.inj h
                exact hE H locs _ ls hw (Or.inl rfl) dX5_isProductOver_65
              · replace h := stF c16 h
                refine lv_iconst (v := 1) hx hb dX5_isProductOver_60 (by decide) ?_
                refine lv_goto (tgt := 65) hx hb dX5_isProductOver_61 (by decide) ?_
                obtain rfl := Option.some.inj h
                exact hE H locs _ ls hw (Or.inr rfl) dX5_isProductOver_65
    · replace h := stT c2 h
      refine lv_iconst (v := 0) hx hb dX5_isProductOver_12 (by decide) ?_
      obtain rfl := Option.some.inj h
      exact hE H locs _ ls hw (Or.inl rfl) dX5_isProductOver_13
end
theorem dX5_productAt_0 : decode cX5_productAt 0 = .ok (.lconst 0, 1) := by decide +kernel
theorem dX5_productAt_1 : decode cX5_productAt 1 = .ok (.lstore 4, 2) := by decide +kernel
theorem dX5_productAt_3 : decode cX5_productAt 3 = .ok (.iconst 0, 1) := by decide +kernel
theorem dX5_productAt_4 : decode cX5_productAt 4 = .ok (.istore 6, 2) := by decide +kernel
theorem dX5_productAt_6 : decode cX5_productAt 6 = .ok (.iload 6, 2) := by decide +kernel
theorem dX5_productAt_8 : decode cX5_productAt 8 = .ok (.aload_n 0, 1) := by decide +kernel
theorem dX5_productAt_9 : decode cX5_productAt 9 = .ok (.getfield 66, 3) := by decide +kernel
theorem dX5_productAt_12 : decode cX5_productAt 12 = .ok (.if_icmp .ge 179, 3) := by decide +kernel
theorem dX5_productAt_15 : decode cX5_productAt 15 = .ok (.aload_n 0, 1) := by decide +kernel
theorem dX5_productAt_16 : decode cX5_productAt 16 = .ok (.getfield 150, 3) := by decide +kernel
theorem dX5_productAt_19 : decode cX5_productAt 19 = .ok (.ifCond .ne 172, 3) := by decide +kernel
theorem dX5_productAt_22 : decode cX5_productAt 22 = .ok (.iconst 0, 1) := by decide +kernel
theorem dX5_productAt_23 : decode cX5_productAt 23 = .ok (.istore 7, 2) := by decide +kernel
theorem dX5_productAt_25 : decode cX5_productAt 25 = .ok (.iload 7, 2) := by decide +kernel
theorem dX5_productAt_27 : decode cX5_productAt 27 = .ok (.aload_n 0, 1) := by decide +kernel
theorem dX5_productAt_28 : decode cX5_productAt 28 = .ok (.getfield 66, 3) := by decide +kernel
theorem dX5_productAt_31 : decode cX5_productAt 31 = .ok (.if_icmp .ge 154, 3) := by decide +kernel
theorem dX5_productAt_34 : decode cX5_productAt 34 = .ok (.aload_n 0, 1) := by decide +kernel
theorem dX5_productAt_35 : decode cX5_productAt 35 = .ok (.getfield 150, 3) := by decide +kernel
theorem dX5_productAt_38 : decode cX5_productAt 38 = .ok (.ifCond .ne 147, 3) := by decide +kernel
theorem dX5_productAt_41 : decode cX5_productAt 41 = .ok (.sipush 10000, 3) := by decide +kernel
theorem dX5_productAt_44 : decode cX5_productAt 44 = .ok (.iload_n 3, 1) := by decide +kernel
theorem dX5_productAt_45 : decode cX5_productAt 45 = .ok (.imul, 1) := by decide +kernel
theorem dX5_productAt_46 : decode cX5_productAt 46 = .ok (.bipush 100, 2) := by decide +kernel
theorem dX5_productAt_48 : decode cX5_productAt 48 = .ok (.iload 6, 2) := by decide +kernel
theorem dX5_productAt_50 : decode cX5_productAt 50 = .ok (.imul, 1) := by decide +kernel
theorem dX5_productAt_51 : decode cX5_productAt 51 = .ok (.iadd, 1) := by decide +kernel
theorem dX5_productAt_52 : decode cX5_productAt 52 = .ok (.iload 7, 2) := by decide +kernel
theorem dX5_productAt_54 : decode cX5_productAt 54 = .ok (.iadd, 1) := by decide +kernel
theorem dX5_productAt_55 : decode cX5_productAt 55 = .ok (.istore 8, 2) := by decide +kernel
theorem dX5_productAt_57 : decode cX5_productAt 57 = .ok (.aload_n 0, 1) := by decide +kernel
theorem dX5_productAt_58 : decode cX5_productAt 58 = .ok (.getfield 40, 3) := by decide +kernel
theorem dX5_productAt_61 : decode cX5_productAt 61 = .ok (.bipush 12, 2) := by decide +kernel
theorem dX5_productAt_63 : decode cX5_productAt 63 = .ok (.iload_n 1, 1) := by decide +kernel
theorem dX5_productAt_64 : decode cX5_productAt 64 = .ok (.imul, 1) := by decide +kernel
theorem dX5_productAt_65 : decode cX5_productAt 65 = .ok (.iload 6, 2) := by decide +kernel
theorem dX5_productAt_67 : decode cX5_productAt 67 = .ok (.iadd, 1) := by decide +kernel
theorem dX5_productAt_68 : decode cX5_productAt 68 = .ok (.laload, 1) := by decide +kernel
theorem dX5_productAt_69 : decode cX5_productAt 69 = .ok (.lstore 9, 2) := by decide +kernel
theorem dX5_productAt_71 : decode cX5_productAt 71 = .ok (.aload_n 0, 1) := by decide +kernel
theorem dX5_productAt_72 : decode cX5_productAt 72 = .ok (.getfield 40, 3) := by decide +kernel
theorem dX5_productAt_75 : decode cX5_productAt 75 = .ok (.bipush 12, 2) := by decide +kernel
theorem dX5_productAt_77 : decode cX5_productAt 77 = .ok (.iload_n 2, 1) := by decide +kernel
theorem dX5_productAt_78 : decode cX5_productAt 78 = .ok (.imul, 1) := by decide +kernel
theorem dX5_productAt_79 : decode cX5_productAt 79 = .ok (.iload 7, 2) := by decide +kernel
theorem dX5_productAt_81 : decode cX5_productAt 81 = .ok (.iadd, 1) := by decide +kernel
theorem dX5_productAt_82 : decode cX5_productAt 82 = .ok (.laload, 1) := by decide +kernel
theorem dX5_productAt_83 : decode cX5_productAt 83 = .ok (.lstore 11, 2) := by decide +kernel
theorem dX5_productAt_85 : decode cX5_productAt 85 = .ok (.aload_n 0, 1) := by decide +kernel
theorem dX5_productAt_86 : decode cX5_productAt 86 = .ok (.iload 6, 2) := by decide +kernel
theorem dX5_productAt_88 : decode cX5_productAt 88 = .ok (.iload 7, 2) := by decide +kernel
theorem dX5_productAt_90 : decode cX5_productAt 90 = .ok (.iload_n 3, 1) := by decide +kernel
theorem dX5_productAt_91 : decode cX5_productAt 91 = .ok (.invokevirtual 124, 3) := by decide +kernel
theorem dX5_productAt_94 : decode cX5_productAt 94 = .ok (.i2l, 1) := by decide +kernel
theorem dX5_productAt_95 : decode cX5_productAt 95 = .ok (.lstore 13, 2) := by decide +kernel
theorem dX5_productAt_97 : decode cX5_productAt 97 = .ok (.lload 9, 2) := by decide +kernel
theorem dX5_productAt_99 : decode cX5_productAt 99 = .ok (.lload 11, 2) := by decide +kernel
theorem dX5_productAt_101 : decode cX5_productAt 101 = .ok (.invokestatic 157, 3) := by decide +kernel
theorem dX5_productAt_104 : decode cX5_productAt 104 = .ok (.ifCond .eq 13, 3) := by decide +kernel
theorem dX5_productAt_107 : decode cX5_productAt 107 = .ok (.aload_n 0, 1) := by decide +kernel
theorem dX5_productAt_108 : decode cX5_productAt 108 = .ok (.iconst 1, 1) := by decide +kernel
theorem dX5_productAt_109 : decode cX5_productAt 109 = .ok (.iload 8, 2) := by decide +kernel
theorem dX5_productAt_111 : decode cX5_productAt 111 = .ok (.invokevirtual 161, 3) := by decide +kernel
theorem dX5_productAt_114 : decode cX5_productAt 114 = .ok (.goto 65, 3) := by decide +kernel
theorem dX5_productAt_117 : decode cX5_productAt 117 = .ok (.lload 9, 2) := by decide +kernel
theorem dX5_productAt_119 : decode cX5_productAt 119 = .ok (.lload 11, 2) := by decide +kernel
theorem dX5_productAt_121 : decode cX5_productAt 121 = .ok (.lmul, 1) := by decide +kernel
theorem dX5_productAt_122 : decode cX5_productAt 122 = .ok (.lload 13, 2) := by decide +kernel
theorem dX5_productAt_124 : decode cX5_productAt 124 = .ok (.invokestatic 157, 3) := by decide +kernel
theorem dX5_productAt_127 : decode cX5_productAt 127 = .ok (.ifCond .eq 13, 3) := by decide +kernel
theorem dX5_productAt_130 : decode cX5_productAt 130 = .ok (.aload_n 0, 1) := by decide +kernel
theorem dX5_productAt_131 : decode cX5_productAt 131 = .ok (.iconst 2, 1) := by decide +kernel
theorem dX5_productAt_132 : decode cX5_productAt 132 = .ok (.iload 8, 2) := by decide +kernel
theorem dX5_productAt_134 : decode cX5_productAt 134 = .ok (.invokevirtual 161, 3) := by decide +kernel
theorem dX5_productAt_137 : decode cX5_productAt 137 = .ok (.goto 42, 3) := by decide +kernel
theorem dX5_productAt_140 : decode cX5_productAt 140 = .ok (.lload 4, 2) := by decide +kernel
theorem dX5_productAt_142 : decode cX5_productAt 142 = .ok (.lload 9, 2) := by decide +kernel
theorem dX5_productAt_144 : decode cX5_productAt 144 = .ok (.lload 11, 2) := by decide +kernel
theorem dX5_productAt_146 : decode cX5_productAt 146 = .ok (.lmul, 1) := by decide +kernel
theorem dX5_productAt_147 : decode cX5_productAt 147 = .ok (.lload 13, 2) := by decide +kernel
theorem dX5_productAt_149 : decode cX5_productAt 149 = .ok (.lmul, 1) := by decide +kernel
theorem dX5_productAt_150 : decode cX5_productAt 150 = .ok (.invokestatic 164, 3) := by decide +kernel
theorem dX5_productAt_153 : decode cX5_productAt 153 = .ok (.ifCond .eq 13, 3) := by decide +kernel
theorem dX5_productAt_156 : decode cX5_productAt 156 = .ok (.aload_n 0, 1) := by decide +kernel
theorem dX5_productAt_157 : decode cX5_productAt 157 = .ok (.iconst 3, 1) := by decide +kernel
theorem dX5_productAt_158 : decode cX5_productAt 158 = .ok (.iload 8, 2) := by decide +kernel
theorem dX5_productAt_160 : decode cX5_productAt 160 = .ok (.invokevirtual 161, 3) := by decide +kernel
theorem dX5_productAt_163 : decode cX5_productAt 163 = .ok (.goto 16, 3) := by decide +kernel
theorem dX5_productAt_166 : decode cX5_productAt 166 = .ok (.lload 4, 2) := by decide +kernel
theorem dX5_productAt_168 : decode cX5_productAt 168 = .ok (.lload 9, 2) := by decide +kernel
theorem dX5_productAt_170 : decode cX5_productAt 170 = .ok (.lload 11, 2) := by decide +kernel
theorem dX5_productAt_172 : decode cX5_productAt 172 = .ok (.lmul, 1) := by decide +kernel
theorem dX5_productAt_173 : decode cX5_productAt 173 = .ok (.lload 13, 2) := by decide +kernel
theorem dX5_productAt_175 : decode cX5_productAt 175 = .ok (.lmul, 1) := by decide +kernel
theorem dX5_productAt_176 : decode cX5_productAt 176 = .ok (.ladd, 1) := by decide +kernel
theorem dX5_productAt_177 : decode cX5_productAt 177 = .ok (.lstore 4, 2) := by decide +kernel
theorem dX5_productAt_179 : decode cX5_productAt 179 = .ok (.iinc 7 1, 3) := by decide +kernel
theorem dX5_productAt_182 : decode cX5_productAt 182 = .ok (.goto (-157), 3) := by decide +kernel
theorem dX5_productAt_185 : decode cX5_productAt 185 = .ok (.iinc 6 1, 3) := by decide +kernel
theorem dX5_productAt_188 : decode cX5_productAt 188 = .ok (.goto (-182), 3) := by decide +kernel
theorem dX5_productAt_191 : decode cX5_productAt 191 = .ok (.lload 4, 2) := by decide +kernel
theorem dX5_productAt_193 : decode cX5_productAt 193 = .ok (.lreturn, 1) := by decide +kernel
section
variable {p : Program} {l : Launch} {e : Env} {s : State} {m : MethodId} {args : Array Value} {below : List Frame} {meth : Method} {c : Code} {Q : State → Prop} {G : GG} {A : Nat → Prop} {q : Nat → Nat} {fr : va_W}
def f_X5_productAt_L25 (yp : Int32) (ye : Int32) (bPo : Nat → Int32) (bTb : Nat → Int32) (bOs : Nat → Int32) (bOn : Nat → Int32) (yop : Int32) (wMa : Nat → Int64) (v1 : Int32) (v2 : Int32) (v3 : Int32) (KK : (Nat → Int32) → (Nat → Int32) → Int32 → Int32 → Int64 → Int32 → Option (Int64 × (Nat → Int32) × (Nat → Int32) × Int32 × Int32)) : Nat → (Nat → Int32) → (Nat → Int32) → Int32 → Int32 → Int64 → Int32 → Int32 → Option (Int64 × (Nat → Int32) × (Nat → Int32) × Int32 × Int32)
  | 0, _, _, _, _, _, _, _ => none
  | fu + 1, bSo, bNu, ytr, yiw, v4, v6, v7 =>
    if ye ≤ v7 then
    KK bSo bNu ytr yiw v4 (v6 + 1)
    else
    if yiw = 0 then
    if inb ((12 * v1) + v6) 480 then
    if inb ((12 * v2) + v7) 480 then
    (f_X5_timesOf yp ye bPo bTb v6 v7 v3).bind fun z5 =>
    (f_X5_isProductOver (wMa ((12 * v1) + v6).toNatClampNeg) (wMa ((12 * v2) + v7).toNatClampNeg)).bind fun z6 =>
    if z6 = 0 then
    (f_X5_isProductOver ((wMa ((12 * v1) + v6).toNatClampNeg) * (wMa ((12 * v2) + v7).toNatClampNeg)) z5.toInt64).bind fun z8 =>
    if z8 = 0 then
    (f_X5_isSumOver v4 (((wMa ((12 * v1) + v6).toNatClampNeg) * (wMa ((12 * v2) + v7).toNatClampNeg)) * z5.toInt64)).bind fun z10 =>
    if z10 = 0 then
    f_X5_productAt_L25 yp ye bPo bTb bOs bOn yop wMa v1 v2 v3 KK fu bSo bNu ytr yiw (v4 + (((wMa ((12 * v1) + v6).toNatClampNeg) * (wMa ((12 * v2) + v7).toNatClampNeg)) * z5.toInt64)) v6 (v7 + 1)
    else
    (f_X5_wrong bOs bOn yop bSo bNu ytr yiw 3 (((10000 * v3) + (100 * v6)) + v7)).bind fun z12 =>
    f_X5_productAt_L25 yp ye bPo bTb bOs bOn yop wMa v1 v2 v3 KK fu z12.1 z12.2.1 z12.2.2.1 z12.2.2.2 v4 v6 (v7 + 1)
    else
    (f_X5_wrong bOs bOn yop bSo bNu ytr yiw 2 (((10000 * v3) + (100 * v6)) + v7)).bind fun z13 =>
    f_X5_productAt_L25 yp ye bPo bTb bOs bOn yop wMa v1 v2 v3 KK fu z13.1 z13.2.1 z13.2.2.1 z13.2.2.2 v4 v6 (v7 + 1)
    else
    (f_X5_wrong bOs bOn yop bSo bNu ytr yiw 1 (((10000 * v3) + (100 * v6)) + v7)).bind fun z14 =>
    f_X5_productAt_L25 yp ye bPo bTb bOs bOn yop wMa v1 v2 v3 KK fu z14.1 z14.2.1 z14.2.2.1 z14.2.2.2 v4 v6 (v7 + 1)
    else none
    else none
    else
    KK bSo bNu ytr yiw v4 (v6 + 1)
set_option maxHeartbeats 4000000 in
set_option maxRecDepth 100000 in
theorem w_X5_productAt_L25  {yp : Int32} {ye : Int32} {yg : Int32} {bPo : Nat → Int32} {bTb : Nat → Int32} {wSh : Nat → Int64} {wTe : Nat → Int64} {wNx : Nat → Int64} {bOs : Nat → Int32} {bOn : Nat → Int32} {yop : Int32} {wMa : Nat → Int64} {wPr : Nat → Int64} {bTp : Nat → Int32} {yln : Int32} {ypl : Int32} {yfa : Int32} {wLi : Nat → Int64} {bSi : Nat → Int32} {yhp : Int32} {yhe : Int32} {yhg : Int32} {wHs : Nat → Int64} {yhi : Int32} {v1 : Int32} {v2 : Int32} {v3 : Int32} {KK : (Nat → Int32) → (Nat → Int32) → Int32 → Int32 → Int64 → Int32 → Option (Int64 × (Nat → Int32) × (Nat → Int32) × Int32 × Int32)} (F : Fx p s m args meth c cX5_productAt 15 RX5 (some .long)) (hA : ∀ q, s.heap.size ≤ q → A q)  (hK : ∀ (bSo : Nat → Int32) (bNu : Nat → Int32) (ytr : Int32) (yiw : Int32) (v4 : Int64) (v6 : Int32) (z : Int64 × (Nat → Int32) × (Nat → Int32) × Int32 × Int32), KK bSo bNu ytr yiw v4 v6 = some z → Ends p l e (rmOf 4 102) s m args below meth c Q cX5_productAt G A (some .long) (some (.long z.1)) (mW G q yp ye yg bPo bTb wSh wTe wNx bOs bOn yop z.2.1 z.2.2.1 z.2.2.2.1 z.2.2.2.2 wMa wPr bTp yln ypl yfa wLi bSi yhp yhe yhg wHs yhi ++ fr) → ∀ (H : Heap) (locs : List Loc) (ls : Array Slot), Wd G s A (mW G q yp ye yg bPo bTb wSh wTe wNx bOs bOn yop bSo bNu ytr yiw wMa wPr bTp yln ypl yfa wLi bSi yhp yhe yhg wHs yhi ++ fr) H locs → lv_has ls 15 [(0, .ref (q 0)), (1, .int v1), (2, .int v2), (3, .int v3), (4, .long v4), (6, .int v6)] → W p l e (rmOf 4 102) s m args below meth c H locs 0 0 Q (F0 m 6 ls [])) : ∀ (fu : Nat) (bSo : Nat → Int32) (bNu : Nat → Int32) (ytr : Int32) (yiw : Int32) (v4 : Int64) (v6 : Int32) (v7 : Int32) (z : Int64 × (Nat → Int32) × (Nat → Int32) × Int32 × Int32), f_X5_productAt_L25 yp ye bPo bTb bOs bOn yop wMa v1 v2 v3 KK fu bSo bNu ytr yiw v4 v6 v7 = some z → Ends p l e (rmOf 4 102) s m args below meth c Q cX5_productAt G A (some .long) (some (.long z.1)) (mW G q yp ye yg bPo bTb wSh wTe wNx bOs bOn yop z.2.1 z.2.2.1 z.2.2.2.1 z.2.2.2.2 wMa wPr bTp yln ypl yfa wLi bSi yhp yhe yhg wHs yhi ++ fr) → ∀ (H : Heap) (locs : List Loc) (ls : Array Slot), Wd G s A (mW G q yp ye yg bPo bTb wSh wTe wNx bOs bOn yop bSo bNu ytr yiw wMa wPr bTp yln ypl yfa wLi bSi yhp yhe yhg wHs yhi ++ fr) H locs → lv_has ls 15 [(0, .ref (q 0)), (1, .int v1), (2, .int v2), (3, .int v3), (4, .long v4), (6, .int v6), (7, .int v7)] → W p l e (rmOf 4 102) s m args below meth c H locs 0 0 Q (F0 m 25 ls []) := by
  have hx := F.x
  have hb := F.b
  intro fu
  induction fu with
  | zero =>
    intro bSo bNu ytr yiw v4 v6 v7 z h
    cases (h : none = some z)
  | succ fu ih =>
    intro bSo bNu ytr yiw v4 v6 v7 z h hE H locs ls hw hl
    rw [f_X5_productAt_L25] at h
    refine lv_iload hx hb dX5_productAt_25 (lv_at hl 6 rfl) ?_
    refine lv_aload_n hx hb dX5_productAt_27 rfl (lv_at hl 0 rfl) ?_
    refine gf_5_66 F hw dX5_productAt_28 ?_
    refine lv_icmp_ge (tgt := 185) hx hb dX5_productAt_31 (by decide) (fun c1 => ?_) (fun c1 => ?_)
    · replace h := stT c1 h
      refine lv_iinc (v := (v6 + 1)) (lv' := [(6, .int (v6 + 1)), (0, .ref (q 0)), (1, .int v1), (2, .int v2), (3, .int v3), (4, .long v4), (7, .int v7)]) hx hb dX5_productAt_185 hl (k := 5) rfl rfl (by decide) rfl (fun ls hl => ?_)
      refine lv_goto (tgt := 6) hx hb dX5_productAt_188 (by decide) ?_
      exact hK _ _ _ _ _ _ z h hE H locs ls hw (lv_sub hl [1, 2, 3, 4, 5, 0] rfl)
    · replace h := stF c1 h
      refine lv_aload_n hx hb dX5_productAt_34 rfl (lv_at hl 0 rfl) ?_
      refine gf_5_150 F hw dX5_productAt_35 ?_
      refine lv_if_ne (tgt := 185) hx hb dX5_productAt_38 (by decide) (fun c2 => ?_) (fun c2 => ?_)
      · replace h := stF c2 h
        refine lv_iinc (v := (v6 + 1)) (lv' := [(6, .int (v6 + 1)), (0, .ref (q 0)), (1, .int v1), (2, .int v2), (3, .int v3), (4, .long v4), (7, .int v7)]) hx hb dX5_productAt_185 hl (k := 5) rfl rfl (by decide) rfl (fun ls hl => ?_)
        refine lv_goto (tgt := 6) hx hb dX5_productAt_188 (by decide) ?_
        exact hK _ _ _ _ _ _ z h hE H locs ls hw (lv_sub hl [1, 2, 3, 4, 5, 0] rfl)
      · replace h := stT c2 h
        refine lv_sipush (v := 10000) hx hb dX5_productAt_41 (by decide) ?_
        refine lv_iload_n hx hb dX5_productAt_44 rfl (lv_at hl 3 rfl) ?_
        refine lv_imul hx hb dX5_productAt_45 ?_
        refine lv_bipush (v := 100) hx hb dX5_productAt_46 (by decide) ?_
        refine lv_iload hx hb dX5_productAt_48 (lv_at hl 5 rfl) ?_
        refine lv_imul hx hb dX5_productAt_50 ?_
        refine lv_iadd hx hb dX5_productAt_51 ?_
        refine lv_iload hx hb dX5_productAt_52 (lv_at hl 6 rfl) ?_
        refine lv_iadd hx hb dX5_productAt_54 ?_
        refine lv_istore (lv' := [(8, .int (((10000 * v3) + (100 * v6)) + v7)), (0, .ref (q 0)), (1, .int v1), (2, .int v2), (3, .int v3), (4, .long v4), (6, .int v6), (7, .int v7)]) hx hb dX5_productAt_55 hl (by decide) rfl (fun ls hl => ?_)
        refine lv_aload_n hx hb dX5_productAt_57 rfl (lv_at hl 1 rfl) ?_
        refine gf_5_40 F hw dX5_productAt_58 ?_
        refine lv_bipush (v := 12) hx hb dX5_productAt_61 (by decide) ?_
        refine lv_iload_n hx hb dX5_productAt_63 rfl (lv_at hl 2 rfl) ?_
        refine lv_imul hx hb dX5_productAt_64 ?_
        refine lv_iload hx hb dX5_productAt_65 (lv_at hl 6 rfl) ?_
        refine lv_iadd hx hb dX5_productAt_67 ?_
        obtain ⟨g3, h⟩ := stG h
        refine al_m10 F hw g3 dX5_productAt_68 ?_
        refine lv_lstore (lv' := [(9, .long (wMa ((12 * v1) + v6).toNatClampNeg)), (8, .int (((10000 * v3) + (100 * v6)) + v7)), (0, .ref (q 0)), (1, .int v1), (2, .int v2), (3, .int v3), (4, .long v4), (6, .int v6), (7, .int v7)]) hx hb dX5_productAt_69 hl (by decide) rfl (fun ls hl => ?_)
        refine lv_aload_n hx hb dX5_productAt_71 rfl (lv_at hl 2 rfl) ?_
        refine gf_5_40 F hw dX5_productAt_72 ?_
        refine lv_bipush (v := 12) hx hb dX5_productAt_75 (by decide) ?_
        refine lv_iload_n hx hb dX5_productAt_77 rfl (lv_at hl 4 rfl) ?_
        refine lv_imul hx hb dX5_productAt_78 ?_
        refine lv_iload hx hb dX5_productAt_79 (lv_at hl 8 rfl) ?_
        refine lv_iadd hx hb dX5_productAt_81 ?_
        obtain ⟨g4, h⟩ := stG h
        refine al_m10 F hw g4 dX5_productAt_82 ?_
        refine lv_lstore (lv' := [(11, .long (wMa ((12 * v2) + v7).toNatClampNeg)), (9, .long (wMa ((12 * v1) + v6).toNatClampNeg)), (8, .int (((10000 * v3) + (100 * v6)) + v7)), (0, .ref (q 0)), (1, .int v1), (2, .int v2), (3, .int v3), (4, .long v4), (6, .int v6), (7, .int v7)]) hx hb dX5_productAt_83 hl (by decide) rfl (fun ls hl => ?_)
        refine lv_aload_n hx hb dX5_productAt_85 rfl (lv_at hl 3 rfl) ?_
        refine lv_iload hx hb dX5_productAt_86 (lv_at hl 8 rfl) ?_
        refine lv_iload hx hb dX5_productAt_88 (lv_at hl 9 rfl) ?_
        refine lv_iload_n hx hb dX5_productAt_90 rfl (lv_at hl 6 rfl) ?_
        obtain ⟨z5, hz5, h⟩ := stB h
        refine ctV (av := [.int v6, .int v7, .int v3]) (st0 := ([] : List Value)) (st1 := ([.int z5] : List Value)) F hw hA (k_X5_timesOf hz5) kl_5_124 kd_X5_timesOf rfl ⟨by decide, by decide⟩ 0 rfl rfl hl.1 rfl (Nat.le_of_ble_eq_true rfl) dX5_productAt_91 rfl (fun H locs hw => ?_)
        refine lv_i2l (v := z5.toInt64) hx hb dX5_productAt_94 rfl ?_
        refine lv_lstore (lv' := [(13, .long z5.toInt64), (11, .long (wMa ((12 * v2) + v7).toNatClampNeg)), (9, .long (wMa ((12 * v1) + v6).toNatClampNeg)), (8, .int (((10000 * v3) + (100 * v6)) + v7)), (0, .ref (q 0)), (1, .int v1), (2, .int v2), (3, .int v3), (4, .long v4), (6, .int v6), (7, .int v7)]) hx hb dX5_productAt_95 hl (by decide) rfl (fun ls hl => ?_)
        refine lv_lload hx hb dX5_productAt_97 (lv_at hl 2 rfl) ?_
        refine lv_lload hx hb dX5_productAt_99 (lv_at hl 1 rfl) ?_
        obtain ⟨z6, hz6, h⟩ := stB h
        refine ctS (av := [.long (wMa ((12 * v1) + v6).toNatClampNeg), .long (wMa ((12 * v2) + v7).toNatClampNeg)]) (st0 := ([] : List Value)) (st1 := ([.int z6] : List Value)) F hw hA (k_X5_isProductOver hz6) kl_5_157 kd_X5_isProductOver rfl ⟨by decide, by decide⟩ hl.1 rfl (Nat.le_of_ble_eq_true rfl) dX5_productAt_101 rfl (fun H locs hw => ?_)
        refine lv_if_eq (tgt := 117) hx hb dX5_productAt_104 (by decide) (fun c7 => ?_) (fun c7 => ?_)
        · replace h := stT c7 h
          refine lv_lload hx hb dX5_productAt_117 (lv_at hl 2 rfl) ?_
          refine lv_lload hx hb dX5_productAt_119 (lv_at hl 1 rfl) ?_
          refine lv_lmul hx hb dX5_productAt_121 ?_
          refine lv_lload hx hb dX5_productAt_122 (lv_at hl 0 rfl) ?_
          obtain ⟨z8, hz8, h⟩ := stB h
          refine ctS (av := [.long ((wMa ((12 * v1) + v6).toNatClampNeg) * (wMa ((12 * v2) + v7).toNatClampNeg)), .long z5.toInt64]) (st0 := ([] : List Value)) (st1 := ([.int z8] : List Value)) F hw hA (k_X5_isProductOver hz8) kl_5_157 kd_X5_isProductOver rfl ⟨by decide, by decide⟩ hl.1 rfl (Nat.le_of_ble_eq_true rfl) dX5_productAt_124 rfl (fun H locs hw => ?_)
          refine lv_if_eq (tgt := 140) hx hb dX5_productAt_127 (by decide) (fun c9 => ?_) (fun c9 => ?_)
          · replace h := stT c9 h
            refine lv_lload hx hb dX5_productAt_140 (lv_at hl 8 rfl) ?_
            refine lv_lload hx hb dX5_productAt_142 (lv_at hl 2 rfl) ?_
            refine lv_lload hx hb dX5_productAt_144 (lv_at hl 1 rfl) ?_
            refine lv_lmul hx hb dX5_productAt_146 ?_
            refine lv_lload hx hb dX5_productAt_147 (lv_at hl 0 rfl) ?_
            refine lv_lmul hx hb dX5_productAt_149 ?_
            obtain ⟨z10, hz10, h⟩ := stB h
            refine ctS (av := [.long v4, .long (((wMa ((12 * v1) + v6).toNatClampNeg) * (wMa ((12 * v2) + v7).toNatClampNeg)) * z5.toInt64)]) (st0 := ([] : List Value)) (st1 := ([.int z10] : List Value)) F hw hA (k_X5_isSumOver hz10) kl_5_164 kd_X5_isSumOver rfl ⟨by decide, by decide⟩ hl.1 rfl (Nat.le_of_ble_eq_true rfl) dX5_productAt_150 rfl (fun H locs hw => ?_)
            refine lv_if_eq (tgt := 166) hx hb dX5_productAt_153 (by decide) (fun c11 => ?_) (fun c11 => ?_)
            · replace h := stT c11 h
              refine lv_lload hx hb dX5_productAt_166 (lv_at hl 8 rfl) ?_
              refine lv_lload hx hb dX5_productAt_168 (lv_at hl 2 rfl) ?_
              refine lv_lload hx hb dX5_productAt_170 (lv_at hl 1 rfl) ?_
              refine lv_lmul hx hb dX5_productAt_172 ?_
              refine lv_lload hx hb dX5_productAt_173 (lv_at hl 0 rfl) ?_
              refine lv_lmul hx hb dX5_productAt_175 ?_
              refine lv_ladd hx hb dX5_productAt_176 ?_
              refine lv_lstore (lv' := [(4, .long (v4 + (((wMa ((12 * v1) + v6).toNatClampNeg) * (wMa ((12 * v2) + v7).toNatClampNeg)) * z5.toInt64))), (13, .long z5.toInt64), (11, .long (wMa ((12 * v2) + v7).toNatClampNeg)), (9, .long (wMa ((12 * v1) + v6).toNatClampNeg)), (8, .int (((10000 * v3) + (100 * v6)) + v7)), (0, .ref (q 0)), (1, .int v1), (2, .int v2), (3, .int v3), (6, .int v6), (7, .int v7)]) hx hb dX5_productAt_177 hl (by decide) rfl (fun ls hl => ?_)
              refine lv_iinc (v := (v7 + 1)) (lv' := [(7, .int (v7 + 1)), (4, .long (v4 + (((wMa ((12 * v1) + v6).toNatClampNeg) * (wMa ((12 * v2) + v7).toNatClampNeg)) * z5.toInt64))), (13, .long z5.toInt64), (11, .long (wMa ((12 * v2) + v7).toNatClampNeg)), (9, .long (wMa ((12 * v1) + v6).toNatClampNeg)), (8, .int (((10000 * v3) + (100 * v6)) + v7)), (0, .ref (q 0)), (1, .int v1), (2, .int v2), (3, .int v3), (6, .int v6)]) hx hb dX5_productAt_179 hl (k := 10) rfl rfl (by decide) rfl (fun ls hl => ?_)
              refine lv_goto (tgt := 25) hx hb dX5_productAt_182 (by decide) ?_
              exact ih _ _ _ _ _ _ _ z h hE H locs ls hw (lv_sub hl [6, 7, 8, 9, 1, 10, 0] rfl)
            · replace h := stF c11 h
              refine lv_aload_n hx hb dX5_productAt_156 rfl (lv_at hl 4 rfl) ?_
              refine lv_iconst (v := 3) hx hb dX5_productAt_157 (by decide) ?_
              refine lv_iload hx hb dX5_productAt_158 (lv_at hl 3 rfl) ?_
              obtain ⟨z12, hz12, h⟩ := stB h
              refine ctV (av := [.int 3, .int (((10000 * v3) + (100 * v6)) + v7)]) (st0 := ([] : List Value)) (st1 := ([] : List Value)) F hw hA (k_X5_wrong hz12) kl_5_161 kd_X5_wrong rfl ⟨by decide, by decide⟩ 0 rfl rfl hl.1 rfl (Nat.le_of_ble_eq_true rfl) dX5_productAt_160 rfl (fun H locs hw => ?_)
              refine lv_goto (tgt := 179) hx hb dX5_productAt_163 (by decide) ?_
              refine lv_iinc (v := (v7 + 1)) (lv' := [(7, .int (v7 + 1)), (13, .long z5.toInt64), (11, .long (wMa ((12 * v2) + v7).toNatClampNeg)), (9, .long (wMa ((12 * v1) + v6).toNatClampNeg)), (8, .int (((10000 * v3) + (100 * v6)) + v7)), (0, .ref (q 0)), (1, .int v1), (2, .int v2), (3, .int v3), (4, .long v4), (6, .int v6)]) hx hb dX5_productAt_179 hl (k := 10) rfl rfl (by decide) rfl (fun ls hl => ?_)
              refine lv_goto (tgt := 25) hx hb dX5_productAt_182 (by decide) ?_
              exact ih _ _ _ _ _ _ _ z h hE H locs ls hw (lv_sub hl [5, 6, 7, 8, 9, 10, 0] rfl)
          · replace h := stF c9 h
            refine lv_aload_n hx hb dX5_productAt_130 rfl (lv_at hl 4 rfl) ?_
            refine lv_iconst (v := 2) hx hb dX5_productAt_131 (by decide) ?_
            refine lv_iload hx hb dX5_productAt_132 (lv_at hl 3 rfl) ?_
            obtain ⟨z13, hz13, h⟩ := stB h
            refine ctV (av := [.int 2, .int (((10000 * v3) + (100 * v6)) + v7)]) (st0 := ([] : List Value)) (st1 := ([] : List Value)) F hw hA (k_X5_wrong hz13) kl_5_161 kd_X5_wrong rfl ⟨by decide, by decide⟩ 0 rfl rfl hl.1 rfl (Nat.le_of_ble_eq_true rfl) dX5_productAt_134 rfl (fun H locs hw => ?_)
            refine lv_goto (tgt := 179) hx hb dX5_productAt_137 (by decide) ?_
            refine lv_iinc (v := (v7 + 1)) (lv' := [(7, .int (v7 + 1)), (13, .long z5.toInt64), (11, .long (wMa ((12 * v2) + v7).toNatClampNeg)), (9, .long (wMa ((12 * v1) + v6).toNatClampNeg)), (8, .int (((10000 * v3) + (100 * v6)) + v7)), (0, .ref (q 0)), (1, .int v1), (2, .int v2), (3, .int v3), (4, .long v4), (6, .int v6)]) hx hb dX5_productAt_179 hl (k := 10) rfl rfl (by decide) rfl (fun ls hl => ?_)
            refine lv_goto (tgt := 25) hx hb dX5_productAt_182 (by decide) ?_
            exact ih _ _ _ _ _ _ _ z h hE H locs ls hw (lv_sub hl [5, 6, 7, 8, 9, 10, 0] rfl)
        · replace h := stF c7 h
          refine lv_aload_n hx hb dX5_productAt_107 rfl (lv_at hl 4 rfl) ?_
          refine lv_iconst (v := 1) hx hb dX5_productAt_108 (by decide) ?_
          refine lv_iload hx hb dX5_productAt_109 (lv_at hl 3 rfl) ?_
          obtain ⟨z14, hz14, h⟩ := stB h
          refine ctV (av := [.int 1, .int (((10000 * v3) + (100 * v6)) + v7)]) (st0 := ([] : List Value)) (st1 := ([] : List Value)) F hw hA (k_X5_wrong hz14) kl_5_161 kd_X5_wrong rfl ⟨by decide, by decide⟩ 0 rfl rfl hl.1 rfl (Nat.le_of_ble_eq_true rfl) dX5_productAt_111 rfl (fun H locs hw => ?_)
          refine lv_goto (tgt := 179) hx hb dX5_productAt_114 (by decide) ?_
          refine lv_iinc (v := (v7 + 1)) (lv' := [(7, .int (v7 + 1)), (13, .long z5.toInt64), (11, .long (wMa ((12 * v2) + v7).toNatClampNeg)), (9, .long (wMa ((12 * v1) + v6).toNatClampNeg)), (8, .int (((10000 * v3) + (100 * v6)) + v7)), (0, .ref (q 0)), (1, .int v1), (2, .int v2), (3, .int v3), (4, .long v4), (6, .int v6)]) hx hb dX5_productAt_179 hl (k := 10) rfl rfl (by decide) rfl (fun ls hl => ?_)
          refine lv_goto (tgt := 25) hx hb dX5_productAt_182 (by decide) ?_
          exact ih _ _ _ _ _ _ _ z h hE H locs ls hw (lv_sub hl [5, 6, 7, 8, 9, 10, 0] rfl)
def f_X5_productAt_L6 (yp : Int32) (ye : Int32) (bPo : Nat → Int32) (bTb : Nat → Int32) (bOs : Nat → Int32) (bOn : Nat → Int32) (yop : Int32) (wMa : Nat → Int64) (v1 : Int32) (v2 : Int32) (v3 : Int32) : Nat → (Nat → Int32) → (Nat → Int32) → Int32 → Int32 → Int64 → Int32 → Option (Int64 × (Nat → Int32) × (Nat → Int32) × Int32 × Int32)
  | 0, _, _, _, _, _, _ => none
  | fu + 1, bSo, bNu, ytr, yiw, v4, v6 =>
    if ye ≤ v6 then
    some (v4, bSo, bNu, ytr, yiw)
    else
    if yiw = 0 then
    f_X5_productAt_L25 yp ye bPo bTb bOs bOn yop wMa v1 v2 v3 (fun w0 w1 w2 w3 w4 w5 => f_X5_productAt_L6 yp ye bPo bTb bOs bOn yop wMa v1 v2 v3 fu w0 w1 w2 w3 w4 w5) FU bSo bNu ytr yiw v4 v6 0
    else
    some (v4, bSo, bNu, ytr, yiw)
set_option maxHeartbeats 4000000 in
set_option maxRecDepth 100000 in
theorem w_X5_productAt_L6  {yp : Int32} {ye : Int32} {yg : Int32} {bPo : Nat → Int32} {bTb : Nat → Int32} {wSh : Nat → Int64} {wTe : Nat → Int64} {wNx : Nat → Int64} {bOs : Nat → Int32} {bOn : Nat → Int32} {yop : Int32} {wMa : Nat → Int64} {wPr : Nat → Int64} {bTp : Nat → Int32} {yln : Int32} {ypl : Int32} {yfa : Int32} {wLi : Nat → Int64} {bSi : Nat → Int32} {yhp : Int32} {yhe : Int32} {yhg : Int32} {wHs : Nat → Int64} {yhi : Int32} {v1 : Int32} {v2 : Int32} {v3 : Int32}  (F : Fx p s m args meth c cX5_productAt 15 RX5 (some .long)) (hA : ∀ q, s.heap.size ≤ q → A q)   : ∀ (fu : Nat) (bSo : Nat → Int32) (bNu : Nat → Int32) (ytr : Int32) (yiw : Int32) (v4 : Int64) (v6 : Int32) (z : Int64 × (Nat → Int32) × (Nat → Int32) × Int32 × Int32), f_X5_productAt_L6 yp ye bPo bTb bOs bOn yop wMa v1 v2 v3 fu bSo bNu ytr yiw v4 v6 = some z → Ends p l e (rmOf 4 102) s m args below meth c Q cX5_productAt G A (some .long) (some (.long z.1)) (mW G q yp ye yg bPo bTb wSh wTe wNx bOs bOn yop z.2.1 z.2.2.1 z.2.2.2.1 z.2.2.2.2 wMa wPr bTp yln ypl yfa wLi bSi yhp yhe yhg wHs yhi ++ fr) → ∀ (H : Heap) (locs : List Loc) (ls : Array Slot), Wd G s A (mW G q yp ye yg bPo bTb wSh wTe wNx bOs bOn yop bSo bNu ytr yiw wMa wPr bTp yln ypl yfa wLi bSi yhp yhe yhg wHs yhi ++ fr) H locs → lv_has ls 15 [(0, .ref (q 0)), (1, .int v1), (2, .int v2), (3, .int v3), (4, .long v4), (6, .int v6)] → W p l e (rmOf 4 102) s m args below meth c H locs 0 0 Q (F0 m 6 ls []) := by
  have hx := F.x
  have hb := F.b
  intro fu
  induction fu with
  | zero =>
    intro bSo bNu ytr yiw v4 v6 z h
    cases (h : none = some z)
  | succ fu ih =>
    intro bSo bNu ytr yiw v4 v6 z h hE H locs ls hw hl
    rw [f_X5_productAt_L6] at h
    refine lv_iload hx hb dX5_productAt_6 (lv_at hl 5 rfl) ?_
    refine lv_aload_n hx hb dX5_productAt_8 rfl (lv_at hl 0 rfl) ?_
    refine gf_5_66 F hw dX5_productAt_9 ?_
    refine lv_icmp_ge (tgt := 191) hx hb dX5_productAt_12 (by decide) (fun c1 => ?_) (fun c1 => ?_)
    · replace h := stT c1 h
      refine lv_lload hx hb dX5_productAt_191 (lv_at hl 4 rfl) ?_
      obtain rfl := Option.some.inj h
      exact hE H locs _ ls hw dX5_productAt_193
    · replace h := stF c1 h
      refine lv_aload_n hx hb dX5_productAt_15 rfl (lv_at hl 0 rfl) ?_
      refine gf_5_150 F hw dX5_productAt_16 ?_
      refine lv_if_ne (tgt := 191) hx hb dX5_productAt_19 (by decide) (fun c2 => ?_) (fun c2 => ?_)
      · replace h := stF c2 h
        refine lv_lload hx hb dX5_productAt_191 (lv_at hl 4 rfl) ?_
        obtain rfl := Option.some.inj h
        exact hE H locs _ ls hw dX5_productAt_193
      · replace h := stT c2 h
        refine lv_iconst (v := 0) hx hb dX5_productAt_22 (by decide) ?_
        refine lv_istore (lv' := [(7, .int 0), (0, .ref (q 0)), (1, .int v1), (2, .int v2), (3, .int v3), (4, .long v4), (6, .int v6)]) hx hb dX5_productAt_23 hl (by decide) rfl (fun ls hl => ?_)
        exact w_X5_productAt_L25 F hA  (fun w0 w1 w2 w3 w4 w5 z h hE H locs ls hw hl => ih w0 w1 w2 w3 w4 w5 z h hE H locs ls hw hl) FU _ _ _ _ _ _ _ z h hE H locs ls hw (lv_sub hl [1, 2, 3, 4, 5, 6, 0] rfl)
def f_X5_productAt (yp : Int32) (ye : Int32) (bPo : Nat → Int32) (bTb : Nat → Int32) (bOs : Nat → Int32) (bOn : Nat → Int32) (yop : Int32) (bSo : Nat → Int32) (bNu : Nat → Int32) (ytr : Int32) (yiw : Int32) (wMa : Nat → Int64) (v1 : Int32) (v2 : Int32) (v3 : Int32) : Option (Int64 × (Nat → Int32) × (Nat → Int32) × Int32 × Int32) :=
  f_X5_productAt_L6 yp ye bPo bTb bOs bOn yop wMa v1 v2 v3 FU bSo bNu ytr yiw 0 0
set_option maxHeartbeats 4000000 in
set_option maxRecDepth 100000 in
theorem k_X5_productAt {l : Launch} {G : GG} {q : Nat → Nat} {fr : va_W}  {yp : Int32} {ye : Int32} {yg : Int32} {bPo : Nat → Int32} {bTb : Nat → Int32} {wSh : Nat → Int64} {wTe : Nat → Int64} {wNx : Nat → Int64} {bOs : Nat → Int32} {bOn : Nat → Int32} {yop : Int32} {bSo : Nat → Int32} {bNu : Nat → Int32} {ytr : Int32} {yiw : Int32} {wMa : Nat → Int64} {wPr : Nat → Int64} {bTp : Nat → Int32} {yln : Int32} {ypl : Int32} {yfa : Int32} {wLi : Nat → Int64} {bSi : Nat → Int32} {yhp : Int32} {yhe : Int32} {yhg : Int32} {wHs : Nat → Int64} {yhi : Int32} {v1 : Int32} {v2 : Int32} {v3 : Int32} {z : Int64 × (Nat → Int32) × (Nat → Int32) × Int32 × Int32}  (h : f_X5_productAt yp ye bPo bTb bOs bOn yop bSo bNu ytr yiw wMa v1 v2 v3 = some z) : Ct l G yX5_productAt cX5_productAt 15 (some .long) 4 102 [.ref (q 0), .int v1, .int v2, .int v3] (mW G q yp ye yg bPo bTb wSh wTe wNx bOs bOn yop bSo bNu ytr yiw wMa wPr bTp yln ypl yfa wLi bSi yhp yhe yhg wHs yhi ++ fr) (some (.long z.1)) (mW G q yp ye yg bPo bTb wSh wTe wNx bOs bOn yop z.2.1 z.2.2.1 z.2.2.2.1 z.2.2.2.2 wMa wPr bTp yln ypl yfa wLi bSi yhp yhe yhg wHs yhi ++ fr) := by
  refine Ct.of (by decide +kernel) (Nat.le_of_ble_eq_true rfl) trivial ?_
  intro p e s m args below meth c Q A ls F hw hA hE hl
  have hx := F.x
  have hb := F.b
  unfold f_X5_productAt at h
  obtain ⟨H, hH⟩ : ∃ H, H = s.heap := ⟨_, rfl⟩
  obtain ⟨locs, hlo⟩ : ∃ locs : List Loc, locs = [] := ⟨_, rfl⟩
  rw [← hH, ← hlo] at hw ⊢
  have hl : lv_has ls 15 [(0, .ref (q 0)), (1, .int v1), (2, .int v2), (3, .int v3)] := hl
  refine lv_lconst (v := 0) hx hb dX5_productAt_0 (by decide) ?_
  refine lv_lstore (lv' := [(4, .long 0), (0, .ref (q 0)), (1, .int v1), (2, .int v2), (3, .int v3)]) hx hb dX5_productAt_1 hl (by decide) rfl (fun ls hl => ?_)
  refine lv_iconst (v := 0) hx hb dX5_productAt_3 (by decide) ?_
  refine lv_istore (lv' := [(6, .int 0), (4, .long 0), (0, .ref (q 0)), (1, .int v1), (2, .int v2), (3, .int v3)]) hx hb dX5_productAt_4 hl (by decide) rfl (fun ls hl => ?_)
  exact w_X5_productAt_L6 F hA  FU _ _ _ _ _ _ z h hE H locs ls hw (lv_sub hl [2, 3, 4, 5, 1, 0] rfl)
end
theorem dX5_multiplies_0 : decode cX5_multiplies 0 = .ok (.iconst 0, 1) := by decide +kernel
theorem dX5_multiplies_1 : decode cX5_multiplies 1 = .ok (.istore_n 3, 1) := by decide +kernel
theorem dX5_multiplies_2 : decode cX5_multiplies 2 = .ok (.iload_n 3, 1) := by decide +kernel
theorem dX5_multiplies_3 : decode cX5_multiplies 3 = .ok (.aload_n 0, 1) := by decide +kernel
theorem dX5_multiplies_4 : decode cX5_multiplies 4 = .ok (.getfield 66, 3) := by decide +kernel
theorem dX5_multiplies_7 : decode cX5_multiplies 7 = .ok (.if_icmp .ge 29, 3) := by decide +kernel
theorem dX5_multiplies_10 : decode cX5_multiplies 10 = .ok (.aload_n 0, 1) := by decide +kernel
theorem dX5_multiplies_11 : decode cX5_multiplies 11 = .ok (.getfield 150, 3) := by decide +kernel
theorem dX5_multiplies_14 : decode cX5_multiplies 14 = .ok (.ifCond .ne 22, 3) := by decide +kernel
theorem dX5_multiplies_17 : decode cX5_multiplies 17 = .ok (.aload_n 0, 1) := by decide +kernel
theorem dX5_multiplies_18 : decode cX5_multiplies 18 = .ok (.getfield 43, 3) := by decide +kernel
theorem dX5_multiplies_21 : decode cX5_multiplies 21 = .ok (.iload_n 3, 1) := by decide +kernel
theorem dX5_multiplies_22 : decode cX5_multiplies 22 = .ok (.aload_n 0, 1) := by decide +kernel
theorem dX5_multiplies_23 : decode cX5_multiplies 23 = .ok (.iload_n 1, 1) := by decide +kernel
theorem dX5_multiplies_24 : decode cX5_multiplies 24 = .ok (.iload_n 2, 1) := by decide +kernel
theorem dX5_multiplies_25 : decode cX5_multiplies 25 = .ok (.iload_n 3, 1) := by decide +kernel
theorem dX5_multiplies_26 : decode cX5_multiplies 26 = .ok (.invokevirtual 167, 3) := by decide +kernel
theorem dX5_multiplies_29 : decode cX5_multiplies 29 = .ok (.lastore, 1) := by decide +kernel
theorem dX5_multiplies_30 : decode cX5_multiplies 30 = .ok (.iinc 3 1, 3) := by decide +kernel
theorem dX5_multiplies_33 : decode cX5_multiplies 33 = .ok (.goto (-31), 3) := by decide +kernel
theorem dX5_multiplies_36 : decode cX5_multiplies 36 = .ok (.aload_n 0, 1) := by decide +kernel
theorem dX5_multiplies_37 : decode cX5_multiplies 37 = .ok (.getfield 43, 3) := by decide +kernel
theorem dX5_multiplies_40 : decode cX5_multiplies 40 = .ok (.iconst 0, 1) := by decide +kernel
theorem dX5_multiplies_41 : decode cX5_multiplies 41 = .ok (.aload_n 0, 1) := by decide +kernel
theorem dX5_multiplies_42 : decode cX5_multiplies 42 = .ok (.getfield 40, 3) := by decide +kernel
theorem dX5_multiplies_45 : decode cX5_multiplies 45 = .ok (.bipush 12, 2) := by decide +kernel
theorem dX5_multiplies_47 : decode cX5_multiplies 47 = .ok (.iload_n 1, 1) := by decide +kernel
theorem dX5_multiplies_48 : decode cX5_multiplies 48 = .ok (.imul, 1) := by decide +kernel
theorem dX5_multiplies_49 : decode cX5_multiplies 49 = .ok (.aload_n 0, 1) := by decide +kernel
theorem dX5_multiplies_50 : decode cX5_multiplies 50 = .ok (.getfield 66, 3) := by decide +kernel
theorem dX5_multiplies_53 : decode cX5_multiplies 53 = .ok (.invokestatic 132, 3) := by decide +kernel
theorem dX5_multiplies_56 : decode cX5_multiplies 56 = .ok (.return_, 1) := by decide +kernel
section
variable {p : Program} {l : Launch} {e : Env} {s : State} {m : MethodId} {args : Array Value} {below : List Frame} {meth : Method} {c : Code} {Q : State → Prop} {G : GG} {A : Nat → Prop} {q : Nat → Nat} {fr : va_W}
def f_X5_multiplies_L2 (yp : Int32) (ye : Int32) (bPo : Nat → Int32) (bTb : Nat → Int32) (bOs : Nat → Int32) (bOn : Nat → Int32) (yop : Int32) (v1 : Int32) (v2 : Int32) : Nat → (Nat → Int32) → (Nat → Int32) → Int32 → Int32 → (Nat → Int64) → (Nat → Int64) → Int32 → Option ((Nat → Int32) × (Nat → Int32) × Int32 × Int32 × (Nat → Int64) × (Nat → Int64))
  | 0, _, _, _, _, _, _, _ => none
  | fu + 1, bSo, bNu, ytr, yiw, wMa, wPr, v3 =>
    if ye ≤ v3 then
    if cpk 0 (12 * v1) ye 12 480 then
    some (bSo, bNu, ytr, yiw, (va_cpy wPr wMa (0 : Int32).toNatClampNeg (12 * v1).toNatClampNeg ye.toNatClampNeg), wPr)
    else none
    else
    if yiw = 0 then
    (f_X5_productAt yp ye bPo bTb bOs bOn yop bSo bNu ytr yiw wMa v1 v2 v3).bind fun z5 =>
    if inb v3 12 then
    f_X5_multiplies_L2 yp ye bPo bTb bOs bOn yop v1 v2 fu z5.2.1 z5.2.2.1 z5.2.2.2.1 z5.2.2.2.2 wMa (vp_updL wPr v3.toNatClampNeg z5.1) (v3 + 1)
    else none
    else
    if cpk 0 (12 * v1) ye 12 480 then
    some (bSo, bNu, ytr, yiw, (va_cpy wPr wMa (0 : Int32).toNatClampNeg (12 * v1).toNatClampNeg ye.toNatClampNeg), wPr)
    else none
set_option maxHeartbeats 4000000 in
set_option maxRecDepth 100000 in
theorem w_X5_multiplies_L2  {yp : Int32} {ye : Int32} {yg : Int32} {bPo : Nat → Int32} {bTb : Nat → Int32} {wSh : Nat → Int64} {wTe : Nat → Int64} {wNx : Nat → Int64} {bOs : Nat → Int32} {bOn : Nat → Int32} {yop : Int32} {bTp : Nat → Int32} {yln : Int32} {ypl : Int32} {yfa : Int32} {wLi : Nat → Int64} {bSi : Nat → Int32} {yhp : Int32} {yhe : Int32} {yhg : Int32} {wHs : Nat → Int64} {yhi : Int32} {v1 : Int32} {v2 : Int32}  (F : Fx p s m args meth c cX5_multiplies 4 RX5 none) (hA : ∀ q, s.heap.size ≤ q → A q)   : ∀ (fu : Nat) (bSo : Nat → Int32) (bNu : Nat → Int32) (ytr : Int32) (yiw : Int32) (wMa : Nat → Int64) (wPr : Nat → Int64) (v3 : Int32) (z : (Nat → Int32) × (Nat → Int32) × Int32 × Int32 × (Nat → Int64) × (Nat → Int64)), f_X5_multiplies_L2 yp ye bPo bTb bOs bOn yop v1 v2 fu bSo bNu ytr yiw wMa wPr v3 = some z → Ends p l e (rmOf 5 136) s m args below meth c Q cX5_multiplies G A none (none) (mW G q yp ye yg bPo bTb wSh wTe wNx bOs bOn yop z.1 z.2.1 z.2.2.1 z.2.2.2.1 z.2.2.2.2.1 z.2.2.2.2.2 bTp yln ypl yfa wLi bSi yhp yhe yhg wHs yhi ++ fr) → ∀ (H : Heap) (locs : List Loc) (ls : Array Slot), Wd G s A (mW G q yp ye yg bPo bTb wSh wTe wNx bOs bOn yop bSo bNu ytr yiw wMa wPr bTp yln ypl yfa wLi bSi yhp yhe yhg wHs yhi ++ fr) H locs → lv_has ls 4 [(0, .ref (q 0)), (1, .int v1), (2, .int v2), (3, .int v3)] → W p l e (rmOf 5 136) s m args below meth c H locs 0 0 Q (F0 m 2 ls []) := by
  have hx := F.x
  have hb := F.b
  intro fu
  induction fu with
  | zero =>
    intro bSo bNu ytr yiw wMa wPr v3 z h
    cases (h : none = some z)
  | succ fu ih =>
    intro bSo bNu ytr yiw wMa wPr v3 z h hE H locs ls hw hl
    rw [f_X5_multiplies_L2] at h
    refine lv_iload_n hx hb dX5_multiplies_2 rfl (lv_at hl 3 rfl) ?_
    refine lv_aload_n hx hb dX5_multiplies_3 rfl (lv_at hl 0 rfl) ?_
    refine gf_5_66 F hw dX5_multiplies_4 ?_
    refine lv_icmp_ge (tgt := 36) hx hb dX5_multiplies_7 (by decide) (fun c1 => ?_) (fun c1 => ?_)
    · replace h := stT c1 h
      refine lv_aload_n hx hb dX5_multiplies_36 rfl (lv_at hl 0 rfl) ?_
      refine gf_5_43 F hw dX5_multiplies_37 ?_
      refine lv_iconst (v := 0) hx hb dX5_multiplies_40 (by decide) ?_
      refine lv_aload_n hx hb dX5_multiplies_41 rfl (lv_at hl 0 rfl) ?_
      refine gf_5_40 F hw dX5_multiplies_42 ?_
      refine lv_bipush (v := 12) hx hb dX5_multiplies_45 (by decide) ?_
      refine lv_iload_n hx hb dX5_multiplies_47 rfl (lv_at hl 1 rfl) ?_
      refine lv_imul hx hb dX5_multiplies_48 ?_
      refine lv_aload_n hx hb dX5_multiplies_49 rfl (lv_at hl 0 rfl) ?_
      refine gf_5_66 F hw dX5_multiplies_50 ?_
      obtain ⟨g2, h⟩ := stG h
      refine va_copyl F.x F.b (F.ml.trans hl.1.symm) F.ow (F.ts _ kac1) (F.ts _ kac2) (F.ts _ kac3) (F.ts _ kac4) hw.1 hw.2.1 hw.2.2.1 hw.2.2.2 11 10 2 2 (f := wPr) (g := wMa) (n0 := 12) (n1 := 480) (ty := .long) rfl rfl rfl rfl rfl (cpk1 g2) (cpk2 g2) (cpk3 g2) (cpk4 g2) (cpk5 g2) (fun _ _ => rfl) (by decide) (by decide) dX5_multiplies_53 (fun H locs hP hD hS => ?_)
      have hw : Wd G s A (mW G q yp ye yg bPo bTb wSh wTe wNx bOs bOn yop bSo bNu ytr yiw (va_cpy wPr wMa (0 : Int32).toNatClampNeg (12 * v1).toNatClampNeg ye.toNatClampNeg) wPr bTp yln ypl yfa wLi bSi yhp yhe yhg wHs yhi ++ fr) H locs := ⟨hw.1, hP, hD, hS⟩
      obtain rfl := Option.some.inj h
      exact hE H locs _ ls hw dX5_multiplies_56
    · replace h := stF c1 h
      refine lv_aload_n hx hb dX5_multiplies_10 rfl (lv_at hl 0 rfl) ?_
      refine gf_5_150 F hw dX5_multiplies_11 ?_
      refine lv_if_ne (tgt := 36) hx hb dX5_multiplies_14 (by decide) (fun c3 => ?_) (fun c3 => ?_)
      · replace h := stF c3 h
        refine lv_aload_n hx hb dX5_multiplies_36 rfl (lv_at hl 0 rfl) ?_
        refine gf_5_43 F hw dX5_multiplies_37 ?_
        refine lv_iconst (v := 0) hx hb dX5_multiplies_40 (by decide) ?_
        refine lv_aload_n hx hb dX5_multiplies_41 rfl (lv_at hl 0 rfl) ?_
        refine gf_5_40 F hw dX5_multiplies_42 ?_
        refine lv_bipush (v := 12) hx hb dX5_multiplies_45 (by decide) ?_
        refine lv_iload_n hx hb dX5_multiplies_47 rfl (lv_at hl 1 rfl) ?_
        refine lv_imul hx hb dX5_multiplies_48 ?_
        refine lv_aload_n hx hb dX5_multiplies_49 rfl (lv_at hl 0 rfl) ?_
        refine gf_5_66 F hw dX5_multiplies_50 ?_
        obtain ⟨g4, h⟩ := stG h
        refine va_copyl F.x F.b (F.ml.trans hl.1.symm) F.ow (F.ts _ kac1) (F.ts _ kac2) (F.ts _ kac3) (F.ts _ kac4) hw.1 hw.2.1 hw.2.2.1 hw.2.2.2 11 10 2 2 (f := wPr) (g := wMa) (n0 := 12) (n1 := 480) (ty := .long) rfl rfl rfl rfl rfl (cpk1 g4) (cpk2 g4) (cpk3 g4) (cpk4 g4) (cpk5 g4) (fun _ _ => rfl) (by decide) (by decide) dX5_multiplies_53 (fun H locs hP hD hS => ?_)
        have hw : Wd G s A (mW G q yp ye yg bPo bTb wSh wTe wNx bOs bOn yop bSo bNu ytr yiw (va_cpy wPr wMa (0 : Int32).toNatClampNeg (12 * v1).toNatClampNeg ye.toNatClampNeg) wPr bTp yln ypl yfa wLi bSi yhp yhe yhg wHs yhi ++ fr) H locs := ⟨hw.1, hP, hD, hS⟩
        obtain rfl := Option.some.inj h
        exact hE H locs _ ls hw dX5_multiplies_56
      · replace h := stT c3 h
        refine lv_aload_n hx hb dX5_multiplies_17 rfl (lv_at hl 0 rfl) ?_
        refine gf_5_43 F hw dX5_multiplies_18 ?_
        refine lv_iload_n hx hb dX5_multiplies_21 rfl (lv_at hl 3 rfl) ?_
        refine lv_aload_n hx hb dX5_multiplies_22 rfl (lv_at hl 0 rfl) ?_
        refine lv_iload_n hx hb dX5_multiplies_23 rfl (lv_at hl 1 rfl) ?_
        refine lv_iload_n hx hb dX5_multiplies_24 rfl (lv_at hl 2 rfl) ?_
        refine lv_iload_n hx hb dX5_multiplies_25 rfl (lv_at hl 3 rfl) ?_
        obtain ⟨z5, hz5, h⟩ := stB h
        refine ctV (av := [.int v1, .int v2, .int v3]) (st0 := ([.int v3, .ref (q 11)] : List Value)) (st1 := ([.long z5.1, .int v3, .ref (q 11)] : List Value)) F hw hA (k_X5_productAt hz5) kl_5_167 kd_X5_productAt rfl ⟨by decide, by decide⟩ 0 rfl rfl hl.1 rfl (Nat.le_of_ble_eq_true rfl) dX5_multiplies_26 rfl (fun H locs hw => ?_)
        obtain ⟨g6, h⟩ := stG h
        refine as_m11 F hw g6 dX5_multiplies_29 (fun H locs hw => ?_)
        refine lv_iinc (v := (v3 + 1)) (lv' := [(3, .int (v3 + 1)), (0, .ref (q 0)), (1, .int v1), (2, .int v2)]) hx hb dX5_multiplies_30 hl (k := 3) rfl rfl (by decide) rfl (fun ls hl => ?_)
        refine lv_goto (tgt := 2) hx hb dX5_multiplies_33 (by decide) ?_
        exact ih _ _ _ _ _ _ _ z h hE H locs ls hw (lv_sub hl [1, 2, 3, 0] rfl)
def f_X5_multiplies (yp : Int32) (ye : Int32) (bPo : Nat → Int32) (bTb : Nat → Int32) (bOs : Nat → Int32) (bOn : Nat → Int32) (yop : Int32) (bSo : Nat → Int32) (bNu : Nat → Int32) (ytr : Int32) (yiw : Int32) (wMa : Nat → Int64) (wPr : Nat → Int64) (v1 : Int32) (v2 : Int32) : Option ((Nat → Int32) × (Nat → Int32) × Int32 × Int32 × (Nat → Int64) × (Nat → Int64)) :=
  f_X5_multiplies_L2 yp ye bPo bTb bOs bOn yop v1 v2 FU bSo bNu ytr yiw wMa wPr 0
set_option maxHeartbeats 4000000 in
set_option maxRecDepth 100000 in
theorem k_X5_multiplies {l : Launch} {G : GG} {q : Nat → Nat} {fr : va_W}  {yp : Int32} {ye : Int32} {yg : Int32} {bPo : Nat → Int32} {bTb : Nat → Int32} {wSh : Nat → Int64} {wTe : Nat → Int64} {wNx : Nat → Int64} {bOs : Nat → Int32} {bOn : Nat → Int32} {yop : Int32} {bSo : Nat → Int32} {bNu : Nat → Int32} {ytr : Int32} {yiw : Int32} {wMa : Nat → Int64} {wPr : Nat → Int64} {bTp : Nat → Int32} {yln : Int32} {ypl : Int32} {yfa : Int32} {wLi : Nat → Int64} {bSi : Nat → Int32} {yhp : Int32} {yhe : Int32} {yhg : Int32} {wHs : Nat → Int64} {yhi : Int32} {v1 : Int32} {v2 : Int32} {z : (Nat → Int32) × (Nat → Int32) × Int32 × Int32 × (Nat → Int64) × (Nat → Int64)}  (h : f_X5_multiplies yp ye bPo bTb bOs bOn yop bSo bNu ytr yiw wMa wPr v1 v2 = some z) : Ct l G yX5_multiplies cX5_multiplies 4 none 5 136 [.ref (q 0), .int v1, .int v2] (mW G q yp ye yg bPo bTb wSh wTe wNx bOs bOn yop bSo bNu ytr yiw wMa wPr bTp yln ypl yfa wLi bSi yhp yhe yhg wHs yhi ++ fr) (none) (mW G q yp ye yg bPo bTb wSh wTe wNx bOs bOn yop z.1 z.2.1 z.2.2.1 z.2.2.2.1 z.2.2.2.2.1 z.2.2.2.2.2 bTp yln ypl yfa wLi bSi yhp yhe yhg wHs yhi ++ fr) := by
  refine Ct.of (by decide +kernel) (Nat.le_of_ble_eq_true rfl) trivial ?_
  intro p e s m args below meth c Q A ls F hw hA hE hl
  have hx := F.x
  have hb := F.b
  unfold f_X5_multiplies at h
  obtain ⟨H, hH⟩ : ∃ H, H = s.heap := ⟨_, rfl⟩
  obtain ⟨locs, hlo⟩ : ∃ locs : List Loc, locs = [] := ⟨_, rfl⟩
  rw [← hH, ← hlo] at hw ⊢
  have hl : lv_has ls 4 [(0, .ref (q 0)), (1, .int v1), (2, .int v2)] := hl
  refine lv_iconst (v := 0) hx hb dX5_multiplies_0 (by decide) ?_
  refine lv_istore_n (lv' := [(3, .int 0), (0, .ref (q 0)), (1, .int v1), (2, .int v2)]) hx hb dX5_multiplies_1 rfl hl (by decide) rfl (fun ls hl => ?_)
  exact w_X5_multiplies_L2 F hA  FU _ _ _ _ _ _ _ z h hE H locs ls hw (lv_sub hl [1, 2, 3, 0] rfl)
end
theorem dX5_adds_0 : decode cX5_adds 0 = .ok (.iconst 0, 1) := by decide +kernel
theorem dX5_adds_1 : decode cX5_adds 1 = .ok (.istore 4, 2) := by decide +kernel
theorem dX5_adds_3 : decode cX5_adds 3 = .ok (.iload 4, 2) := by decide +kernel
theorem dX5_adds_5 : decode cX5_adds 5 = .ok (.aload_n 0, 1) := by decide +kernel
theorem dX5_adds_6 : decode cX5_adds 6 = .ok (.getfield 66, 3) := by decide +kernel
theorem dX5_adds_9 : decode cX5_adds 9 = .ok (.if_icmp .ge 110, 3) := by decide +kernel
theorem dX5_adds_12 : decode cX5_adds 12 = .ok (.aload_n 0, 1) := by decide +kernel
theorem dX5_adds_13 : decode cX5_adds 13 = .ok (.getfield 150, 3) := by decide +kernel
theorem dX5_adds_16 : decode cX5_adds 16 = .ok (.ifCond .ne 103, 3) := by decide +kernel
theorem dX5_adds_19 : decode cX5_adds 19 = .ok (.aload_n 0, 1) := by decide +kernel
theorem dX5_adds_20 : decode cX5_adds 20 = .ok (.getfield 40, 3) := by decide +kernel
theorem dX5_adds_23 : decode cX5_adds 23 = .ok (.bipush 12, 2) := by decide +kernel
theorem dX5_adds_25 : decode cX5_adds 25 = .ok (.iload_n 1, 1) := by decide +kernel
theorem dX5_adds_26 : decode cX5_adds 26 = .ok (.imul, 1) := by decide +kernel
theorem dX5_adds_27 : decode cX5_adds 27 = .ok (.iload 4, 2) := by decide +kernel
theorem dX5_adds_29 : decode cX5_adds 29 = .ok (.iadd, 1) := by decide +kernel
theorem dX5_adds_30 : decode cX5_adds 30 = .ok (.laload, 1) := by decide +kernel
theorem dX5_adds_31 : decode cX5_adds 31 = .ok (.lstore 5, 2) := by decide +kernel
theorem dX5_adds_33 : decode cX5_adds 33 = .ok (.aload_n 0, 1) := by decide +kernel
theorem dX5_adds_34 : decode cX5_adds 34 = .ok (.getfield 40, 3) := by decide +kernel
theorem dX5_adds_37 : decode cX5_adds 37 = .ok (.bipush 12, 2) := by decide +kernel
theorem dX5_adds_39 : decode cX5_adds 39 = .ok (.iload_n 2, 1) := by decide +kernel
theorem dX5_adds_40 : decode cX5_adds 40 = .ok (.imul, 1) := by decide +kernel
theorem dX5_adds_41 : decode cX5_adds 41 = .ok (.iload 4, 2) := by decide +kernel
theorem dX5_adds_43 : decode cX5_adds 43 = .ok (.iadd, 1) := by decide +kernel
theorem dX5_adds_44 : decode cX5_adds 44 = .ok (.laload, 1) := by decide +kernel
theorem dX5_adds_45 : decode cX5_adds 45 = .ok (.lstore 7, 2) := by decide +kernel
theorem dX5_adds_47 : decode cX5_adds 47 = .ok (.iload_n 3, 1) := by decide +kernel
theorem dX5_adds_48 : decode cX5_adds 48 = .ok (.ifCond .eq 16, 3) := by decide +kernel
theorem dX5_adds_51 : decode cX5_adds 51 = .ok (.lload 5, 2) := by decide +kernel
theorem dX5_adds_53 : decode cX5_adds 53 = .ok (.lload 7, 2) := by decide +kernel
theorem dX5_adds_55 : decode cX5_adds 55 = .ok (.invokestatic 171, 3) := by decide +kernel
theorem dX5_adds_58 : decode cX5_adds 58 = .ok (.ifCond .eq 26, 3) := by decide +kernel
theorem dX5_adds_61 : decode cX5_adds 61 = .ok (.goto 13, 3) := by decide +kernel
theorem dX5_adds_64 : decode cX5_adds 64 = .ok (.lload 5, 2) := by decide +kernel
theorem dX5_adds_66 : decode cX5_adds 66 = .ok (.lload 7, 2) := by decide +kernel
theorem dX5_adds_68 : decode cX5_adds 68 = .ok (.invokestatic 164, 3) := by decide +kernel
theorem dX5_adds_71 : decode cX5_adds 71 = .ok (.ifCond .eq 13, 3) := by decide +kernel
theorem dX5_adds_74 : decode cX5_adds 74 = .ok (.aload_n 0, 1) := by decide +kernel
theorem dX5_adds_75 : decode cX5_adds 75 = .ok (.iconst 4, 1) := by decide +kernel
theorem dX5_adds_76 : decode cX5_adds 76 = .ok (.iload 4, 2) := by decide +kernel
theorem dX5_adds_78 : decode cX5_adds 78 = .ok (.invokevirtual 161, 3) := by decide +kernel
theorem dX5_adds_81 : decode cX5_adds 81 = .ok (.goto 32, 3) := by decide +kernel
theorem dX5_adds_84 : decode cX5_adds 84 = .ok (.aload_n 0, 1) := by decide +kernel
theorem dX5_adds_85 : decode cX5_adds 85 = .ok (.getfield 40, 3) := by decide +kernel
theorem dX5_adds_88 : decode cX5_adds 88 = .ok (.bipush 12, 2) := by decide +kernel
theorem dX5_adds_90 : decode cX5_adds 90 = .ok (.iload_n 1, 1) := by decide +kernel
theorem dX5_adds_91 : decode cX5_adds 91 = .ok (.imul, 1) := by decide +kernel
theorem dX5_adds_92 : decode cX5_adds 92 = .ok (.iload 4, 2) := by decide +kernel
theorem dX5_adds_94 : decode cX5_adds 94 = .ok (.iadd, 1) := by decide +kernel
theorem dX5_adds_95 : decode cX5_adds 95 = .ok (.iload_n 3, 1) := by decide +kernel
theorem dX5_adds_96 : decode cX5_adds 96 = .ok (.ifCond .eq 11, 3) := by decide +kernel
theorem dX5_adds_99 : decode cX5_adds 99 = .ok (.lload 5, 2) := by decide +kernel
theorem dX5_adds_101 : decode cX5_adds 101 = .ok (.lload 7, 2) := by decide +kernel
theorem dX5_adds_103 : decode cX5_adds 103 = .ok (.lsub, 1) := by decide +kernel
theorem dX5_adds_104 : decode cX5_adds 104 = .ok (.goto 8, 3) := by decide +kernel
theorem dX5_adds_107 : decode cX5_adds 107 = .ok (.lload 5, 2) := by decide +kernel
theorem dX5_adds_109 : decode cX5_adds 109 = .ok (.lload 7, 2) := by decide +kernel
theorem dX5_adds_111 : decode cX5_adds 111 = .ok (.ladd, 1) := by decide +kernel
theorem dX5_adds_112 : decode cX5_adds 112 = .ok (.lastore, 1) := by decide +kernel
theorem dX5_adds_113 : decode cX5_adds 113 = .ok (.iinc 4 1, 3) := by decide +kernel
theorem dX5_adds_116 : decode cX5_adds 116 = .ok (.goto (-113), 3) := by decide +kernel
theorem dX5_adds_119 : decode cX5_adds 119 = .ok (.return_, 1) := by decide +kernel
section
variable {p : Program} {l : Launch} {e : Env} {s : State} {m : MethodId} {args : Array Value} {below : List Frame} {meth : Method} {c : Code} {Q : State → Prop} {G : GG} {A : Nat → Prop} {q : Nat → Nat} {fr : va_W}
def f_X5_adds_L3 (ye : Int32) (bOs : Nat → Int32) (bOn : Nat → Int32) (yop : Int32) (v1 : Int32) (v2 : Int32) (v3 : Int32) : Nat → (Nat → Int32) → (Nat → Int32) → Int32 → Int32 → (Nat → Int64) → Int32 → Option ((Nat → Int32) × (Nat → Int32) × Int32 × Int32 × (Nat → Int64))
  | 0, _, _, _, _, _, _ => none
  | fu + 1, bSo, bNu, ytr, yiw, wMa, v4 =>
    if ye ≤ v4 then
    some (bSo, bNu, ytr, yiw, wMa)
    else
    if yiw = 0 then
    if inb ((12 * v1) + v4) 480 then
    if inb ((12 * v2) + v4) 480 then
    if v3 = 0 then
    (f_X5_isSumOver (wMa ((12 * v1) + v4).toNatClampNeg) (wMa ((12 * v2) + v4).toNatClampNeg)).bind fun z6 =>
    if z6 = 0 then
    if v3 = 0 then
    if inb ((12 * v1) + v4) 480 then
    f_X5_adds_L3 ye bOs bOn yop v1 v2 v3 fu bSo bNu ytr yiw (vp_updL wMa ((12 * v1) + v4).toNatClampNeg ((wMa ((12 * v1) + v4).toNatClampNeg) + (wMa ((12 * v2) + v4).toNatClampNeg))) (v4 + 1)
    else none
    else
    if inb ((12 * v1) + v4) 480 then
    f_X5_adds_L3 ye bOs bOn yop v1 v2 v3 fu bSo bNu ytr yiw (vp_updL wMa ((12 * v1) + v4).toNatClampNeg ((wMa ((12 * v1) + v4).toNatClampNeg) - (wMa ((12 * v2) + v4).toNatClampNeg))) (v4 + 1)
    else none
    else
    (f_X5_wrong bOs bOn yop bSo bNu ytr yiw 4 v4).bind fun z11 =>
    f_X5_adds_L3 ye bOs bOn yop v1 v2 v3 fu z11.1 z11.2.1 z11.2.2.1 z11.2.2.2 wMa (v4 + 1)
    else
    (f_X5_isLessOver (wMa ((12 * v1) + v4).toNatClampNeg) (wMa ((12 * v2) + v4).toNatClampNeg)).bind fun z12 =>
    if z12 = 0 then
    if v3 = 0 then
    if inb ((12 * v1) + v4) 480 then
    f_X5_adds_L3 ye bOs bOn yop v1 v2 v3 fu bSo bNu ytr yiw (vp_updL wMa ((12 * v1) + v4).toNatClampNeg ((wMa ((12 * v1) + v4).toNatClampNeg) + (wMa ((12 * v2) + v4).toNatClampNeg))) (v4 + 1)
    else none
    else
    if inb ((12 * v1) + v4) 480 then
    f_X5_adds_L3 ye bOs bOn yop v1 v2 v3 fu bSo bNu ytr yiw (vp_updL wMa ((12 * v1) + v4).toNatClampNeg ((wMa ((12 * v1) + v4).toNatClampNeg) - (wMa ((12 * v2) + v4).toNatClampNeg))) (v4 + 1)
    else none
    else
    (f_X5_wrong bOs bOn yop bSo bNu ytr yiw 4 v4).bind fun z17 =>
    f_X5_adds_L3 ye bOs bOn yop v1 v2 v3 fu z17.1 z17.2.1 z17.2.2.1 z17.2.2.2 wMa (v4 + 1)
    else none
    else none
    else
    some (bSo, bNu, ytr, yiw, wMa)
set_option maxHeartbeats 4000000 in
set_option maxRecDepth 100000 in
theorem w_X5_adds_L3  {yp : Int32} {ye : Int32} {yg : Int32} {bPo : Nat → Int32} {bTb : Nat → Int32} {wSh : Nat → Int64} {wTe : Nat → Int64} {wNx : Nat → Int64} {bOs : Nat → Int32} {bOn : Nat → Int32} {yop : Int32} {wPr : Nat → Int64} {bTp : Nat → Int32} {yln : Int32} {ypl : Int32} {yfa : Int32} {wLi : Nat → Int64} {bSi : Nat → Int32} {yhp : Int32} {yhe : Int32} {yhg : Int32} {wHs : Nat → Int64} {yhi : Int32} {v1 : Int32} {v2 : Int32} {v3 : Int32}  (F : Fx p s m args meth c cX5_adds 9 RX5 none) (hA : ∀ q, s.heap.size ≤ q → A q)   : ∀ (fu : Nat) (bSo : Nat → Int32) (bNu : Nat → Int32) (ytr : Int32) (yiw : Int32) (wMa : Nat → Int64) (v4 : Int32) (z : (Nat → Int32) × (Nat → Int32) × Int32 × Int32 × (Nat → Int64)), f_X5_adds_L3 ye bOs bOn yop v1 v2 v3 fu bSo bNu ytr yiw wMa v4 = some z → Ends p l e (rmOf 2 102) s m args below meth c Q cX5_adds G A none (none) (mW G q yp ye yg bPo bTb wSh wTe wNx bOs bOn yop z.1 z.2.1 z.2.2.1 z.2.2.2.1 z.2.2.2.2 wPr bTp yln ypl yfa wLi bSi yhp yhe yhg wHs yhi ++ fr) → ∀ (H : Heap) (locs : List Loc) (ls : Array Slot), Wd G s A (mW G q yp ye yg bPo bTb wSh wTe wNx bOs bOn yop bSo bNu ytr yiw wMa wPr bTp yln ypl yfa wLi bSi yhp yhe yhg wHs yhi ++ fr) H locs → lv_has ls 9 [(0, .ref (q 0)), (1, .int v1), (2, .int v2), (3, .int v3), (4, .int v4)] → W p l e (rmOf 2 102) s m args below meth c H locs 0 0 Q (F0 m 3 ls []) := by
  have hx := F.x
  have hb := F.b
  intro fu
  induction fu with
  | zero =>
    intro bSo bNu ytr yiw wMa v4 z h
    cases (h : none = some z)
  | succ fu ih =>
    intro bSo bNu ytr yiw wMa v4 z h hE H locs ls hw hl
    rw [f_X5_adds_L3] at h
    refine lv_iload hx hb dX5_adds_3 (lv_at hl 4 rfl) ?_
    refine lv_aload_n hx hb dX5_adds_5 rfl (lv_at hl 0 rfl) ?_
    refine gf_5_66 F hw dX5_adds_6 ?_
    refine lv_icmp_ge (tgt := 119) hx hb dX5_adds_9 (by decide) (fun c1 => ?_) (fun c1 => ?_)
    · replace h := stT c1 h
      obtain rfl := Option.some.inj h
      exact hE H locs _ ls hw dX5_adds_119
    · replace h := stF c1 h
      refine lv_aload_n hx hb dX5_adds_12 rfl (lv_at hl 0 rfl) ?_
      refine gf_5_150 F hw dX5_adds_13 ?_
      refine lv_if_ne (tgt := 119) hx hb dX5_adds_16 (by decide) (fun c2 => ?_) (fun c2 => ?_)
      · replace h := stF c2 h
        obtain rfl := Option.some.inj h
        exact hE H locs _ ls hw dX5_adds_119
      · replace h := stT c2 h
        refine lv_aload_n hx hb dX5_adds_19 rfl (lv_at hl 0 rfl) ?_
        refine gf_5_40 F hw dX5_adds_20 ?_
        refine lv_bipush (v := 12) hx hb dX5_adds_23 (by decide) ?_
        refine lv_iload_n hx hb dX5_adds_25 rfl (lv_at hl 1 rfl) ?_
        refine lv_imul hx hb dX5_adds_26 ?_
        refine lv_iload hx hb dX5_adds_27 (lv_at hl 4 rfl) ?_
        refine lv_iadd hx hb dX5_adds_29 ?_
        obtain ⟨g3, h⟩ := stG h
        refine al_m10 F hw g3 dX5_adds_30 ?_
        refine lv_lstore (lv' := [(5, .long (wMa ((12 * v1) + v4).toNatClampNeg)), (0, .ref (q 0)), (1, .int v1), (2, .int v2), (3, .int v3), (4, .int v4)]) hx hb dX5_adds_31 hl (by decide) rfl (fun ls hl => ?_)
        refine lv_aload_n hx hb dX5_adds_33 rfl (lv_at hl 1 rfl) ?_
        refine gf_5_40 F hw dX5_adds_34 ?_
        refine lv_bipush (v := 12) hx hb dX5_adds_37 (by decide) ?_
        refine lv_iload_n hx hb dX5_adds_39 rfl (lv_at hl 3 rfl) ?_
        refine lv_imul hx hb dX5_adds_40 ?_
        refine lv_iload hx hb dX5_adds_41 (lv_at hl 5 rfl) ?_
        refine lv_iadd hx hb dX5_adds_43 ?_
        obtain ⟨g4, h⟩ := stG h
        refine al_m10 F hw g4 dX5_adds_44 ?_
        refine lv_lstore (lv' := [(7, .long (wMa ((12 * v2) + v4).toNatClampNeg)), (5, .long (wMa ((12 * v1) + v4).toNatClampNeg)), (0, .ref (q 0)), (1, .int v1), (2, .int v2), (3, .int v3), (4, .int v4)]) hx hb dX5_adds_45 hl (by decide) rfl (fun ls hl => ?_)
        refine lv_iload_n hx hb dX5_adds_47 rfl (lv_at hl 5 rfl) ?_
        refine lv_if_eq (tgt := 64) hx hb dX5_adds_48 (by decide) (fun c5 => ?_) (fun c5 => ?_)
        · replace h := stT c5 h
          refine lv_lload hx hb dX5_adds_64 (lv_at hl 1 rfl) ?_
          refine lv_lload hx hb dX5_adds_66 (lv_at hl 0 rfl) ?_
          obtain ⟨z6, hz6, h⟩ := stB h
          refine ctS (av := [.long (wMa ((12 * v1) + v4).toNatClampNeg), .long (wMa ((12 * v2) + v4).toNatClampNeg)]) (st0 := ([] : List Value)) (st1 := ([.int z6] : List Value)) F hw hA (k_X5_isSumOver hz6) kl_5_164 kd_X5_isSumOver rfl ⟨by decide, by decide⟩ hl.1 rfl (Nat.le_of_ble_eq_true rfl) dX5_adds_68 rfl (fun H locs hw => ?_)
          refine lv_if_eq (tgt := 84) hx hb dX5_adds_71 (by decide) (fun c7 => ?_) (fun c7 => ?_)
          · replace h := stT c7 h
            refine lv_aload_n hx hb dX5_adds_84 rfl (lv_at hl 2 rfl) ?_
            refine gf_5_40 F hw dX5_adds_85 ?_
            refine lv_bipush (v := 12) hx hb dX5_adds_88 (by decide) ?_
            refine lv_iload_n hx hb dX5_adds_90 rfl (lv_at hl 3 rfl) ?_
            refine lv_imul hx hb dX5_adds_91 ?_
            refine lv_iload hx hb dX5_adds_92 (lv_at hl 6 rfl) ?_
            refine lv_iadd hx hb dX5_adds_94 ?_
            refine lv_iload_n hx hb dX5_adds_95 rfl (lv_at hl 5 rfl) ?_
            refine lv_if_eq (tgt := 107) hx hb dX5_adds_96 (by decide) (fun c8 => ?_) (fun c8 => ?_)
            · replace h := stT c8 h
              refine lv_lload hx hb dX5_adds_107 (lv_at hl 1 rfl) ?_
              refine lv_lload hx hb dX5_adds_109 (lv_at hl 0 rfl) ?_
              refine lv_ladd hx hb dX5_adds_111 ?_
              obtain ⟨g9, h⟩ := stG h
              refine as_m10 F hw g9 dX5_adds_112 (fun H locs hw => ?_)
              refine lv_iinc (v := (v4 + 1)) (lv' := [(4, .int (v4 + 1)), (7, .long (wMa ((12 * v2) + v4).toNatClampNeg)), (5, .long (wMa ((12 * v1) + v4).toNatClampNeg)), (0, .ref (q 0)), (1, .int v1), (2, .int v2), (3, .int v3)]) hx hb dX5_adds_113 hl (k := 6) rfl rfl (by decide) rfl (fun ls hl => ?_)
              refine lv_goto (tgt := 3) hx hb dX5_adds_116 (by decide) ?_
              exact ih _ _ _ _ _ _ z h hE H locs ls hw (lv_sub hl [3, 4, 5, 6, 0] rfl)
            · replace h := stF c8 h
              refine lv_lload hx hb dX5_adds_99 (lv_at hl 1 rfl) ?_
              refine lv_lload hx hb dX5_adds_101 (lv_at hl 0 rfl) ?_
              refine lv_lsub hx hb dX5_adds_103 ?_
              refine lv_goto (tgt := 112) hx hb dX5_adds_104 (by decide) ?_
              obtain ⟨g10, h⟩ := stG h
              refine as_m10 F hw g10 dX5_adds_112 (fun H locs hw => ?_)
              refine lv_iinc (v := (v4 + 1)) (lv' := [(4, .int (v4 + 1)), (7, .long (wMa ((12 * v2) + v4).toNatClampNeg)), (5, .long (wMa ((12 * v1) + v4).toNatClampNeg)), (0, .ref (q 0)), (1, .int v1), (2, .int v2), (3, .int v3)]) hx hb dX5_adds_113 hl (k := 6) rfl rfl (by decide) rfl (fun ls hl => ?_)
              refine lv_goto (tgt := 3) hx hb dX5_adds_116 (by decide) ?_
              exact ih _ _ _ _ _ _ z h hE H locs ls hw (lv_sub hl [3, 4, 5, 6, 0] rfl)
          · replace h := stF c7 h
            refine lv_aload_n hx hb dX5_adds_74 rfl (lv_at hl 2 rfl) ?_
            refine lv_iconst (v := 4) hx hb dX5_adds_75 (by decide) ?_
            refine lv_iload hx hb dX5_adds_76 (lv_at hl 6 rfl) ?_
            obtain ⟨z11, hz11, h⟩ := stB h
            refine ctV (av := [.int 4, .int v4]) (st0 := ([] : List Value)) (st1 := ([] : List Value)) F hw hA (k_X5_wrong hz11) kl_5_161 kd_X5_wrong rfl ⟨by decide, by decide⟩ 0 rfl rfl hl.1 rfl (Nat.le_of_ble_eq_true rfl) dX5_adds_78 rfl (fun H locs hw => ?_)
            refine lv_goto (tgt := 113) hx hb dX5_adds_81 (by decide) ?_
            refine lv_iinc (v := (v4 + 1)) (lv' := [(4, .int (v4 + 1)), (7, .long (wMa ((12 * v2) + v4).toNatClampNeg)), (5, .long (wMa ((12 * v1) + v4).toNatClampNeg)), (0, .ref (q 0)), (1, .int v1), (2, .int v2), (3, .int v3)]) hx hb dX5_adds_113 hl (k := 6) rfl rfl (by decide) rfl (fun ls hl => ?_)
            refine lv_goto (tgt := 3) hx hb dX5_adds_116 (by decide) ?_
            exact ih _ _ _ _ _ _ z h hE H locs ls hw (lv_sub hl [3, 4, 5, 6, 0] rfl)
        · replace h := stF c5 h
          refine lv_lload hx hb dX5_adds_51 (lv_at hl 1 rfl) ?_
          refine lv_lload hx hb dX5_adds_53 (lv_at hl 0 rfl) ?_
          obtain ⟨z12, hz12, h⟩ := stB h
          refine ctS (av := [.long (wMa ((12 * v1) + v4).toNatClampNeg), .long (wMa ((12 * v2) + v4).toNatClampNeg)]) (st0 := ([] : List Value)) (st1 := ([.int z12] : List Value)) F hw hA (k_X5_isLessOver hz12) kl_5_171 kd_X5_isLessOver rfl ⟨by decide, by decide⟩ hl.1 rfl (Nat.le_of_ble_eq_true rfl) dX5_adds_55 rfl (fun H locs hw => ?_)
          refine lv_if_eq (tgt := 84) hx hb dX5_adds_58 (by decide) (fun c13 => ?_) (fun c13 => ?_)
          · replace h := stT c13 h
            refine lv_aload_n hx hb dX5_adds_84 rfl (lv_at hl 2 rfl) ?_
            refine gf_5_40 F hw dX5_adds_85 ?_
            refine lv_bipush (v := 12) hx hb dX5_adds_88 (by decide) ?_
            refine lv_iload_n hx hb dX5_adds_90 rfl (lv_at hl 3 rfl) ?_
            refine lv_imul hx hb dX5_adds_91 ?_
            refine lv_iload hx hb dX5_adds_92 (lv_at hl 6 rfl) ?_
            refine lv_iadd hx hb dX5_adds_94 ?_
            refine lv_iload_n hx hb dX5_adds_95 rfl (lv_at hl 5 rfl) ?_
            refine lv_if_eq (tgt := 107) hx hb dX5_adds_96 (by decide) (fun c14 => ?_) (fun c14 => ?_)
            · replace h := stT c14 h
              refine lv_lload hx hb dX5_adds_107 (lv_at hl 1 rfl) ?_
              refine lv_lload hx hb dX5_adds_109 (lv_at hl 0 rfl) ?_
              refine lv_ladd hx hb dX5_adds_111 ?_
              obtain ⟨g15, h⟩ := stG h
              refine as_m10 F hw g15 dX5_adds_112 (fun H locs hw => ?_)
              refine lv_iinc (v := (v4 + 1)) (lv' := [(4, .int (v4 + 1)), (7, .long (wMa ((12 * v2) + v4).toNatClampNeg)), (5, .long (wMa ((12 * v1) + v4).toNatClampNeg)), (0, .ref (q 0)), (1, .int v1), (2, .int v2), (3, .int v3)]) hx hb dX5_adds_113 hl (k := 6) rfl rfl (by decide) rfl (fun ls hl => ?_)
              refine lv_goto (tgt := 3) hx hb dX5_adds_116 (by decide) ?_
              exact ih _ _ _ _ _ _ z h hE H locs ls hw (lv_sub hl [3, 4, 5, 6, 0] rfl)
            · replace h := stF c14 h
              refine lv_lload hx hb dX5_adds_99 (lv_at hl 1 rfl) ?_
              refine lv_lload hx hb dX5_adds_101 (lv_at hl 0 rfl) ?_
              refine lv_lsub hx hb dX5_adds_103 ?_
              refine lv_goto (tgt := 112) hx hb dX5_adds_104 (by decide) ?_
              obtain ⟨g16, h⟩ := stG h
              refine as_m10 F hw g16 dX5_adds_112 (fun H locs hw => ?_)
              refine lv_iinc (v := (v4 + 1)) (lv' := [(4, .int (v4 + 1)), (7, .long (wMa ((12 * v2) + v4).toNatClampNeg)), (5, .long (wMa ((12 * v1) + v4).toNatClampNeg)), (0, .ref (q 0)), (1, .int v1), (2, .int v2), (3, .int v3)]) hx hb dX5_adds_113 hl (k := 6) rfl rfl (by decide) rfl (fun ls hl => ?_)
              refine lv_goto (tgt := 3) hx hb dX5_adds_116 (by decide) ?_
              exact ih _ _ _ _ _ _ z h hE H locs ls hw (lv_sub hl [3, 4, 5, 6, 0] rfl)
          · replace h := stF c13 h
            refine lv_goto (tgt := 74) hx hb dX5_adds_61 (by decide) ?_
            refine lv_aload_n hx hb dX5_adds_74 rfl (lv_at hl 2 rfl) ?_
            refine lv_iconst (v := 4) hx hb dX5_adds_75 (by decide) ?_
            refine lv_iload hx hb dX5_adds_76 (lv_at hl 6 rfl) ?_
            obtain ⟨z17, hz17, h⟩ := stB h
            refine ctV (av := [.int 4, .int v4]) (st0 := ([] : List Value)) (st1 := ([] : List Value)) F hw hA (k_X5_wrong hz17) kl_5_161 kd_X5_wrong rfl ⟨by decide, by decide⟩ 0 rfl rfl hl.1 rfl (Nat.le_of_ble_eq_true rfl) dX5_adds_78 rfl (fun H locs hw => ?_)
            refine lv_goto (tgt := 113) hx hb dX5_adds_81 (by decide) ?_
            refine lv_iinc (v := (v4 + 1)) (lv' := [(4, .int (v4 + 1)), (7, .long (wMa ((12 * v2) + v4).toNatClampNeg)), (5, .long (wMa ((12 * v1) + v4).toNatClampNeg)), (0, .ref (q 0)), (1, .int v1), (2, .int v2), (3, .int v3)]) hx hb dX5_adds_113 hl (k := 6) rfl rfl (by decide) rfl (fun ls hl => ?_)
            refine lv_goto (tgt := 3) hx hb dX5_adds_116 (by decide) ?_
            exact ih _ _ _ _ _ _ z h hE H locs ls hw (lv_sub hl [3, 4, 5, 6, 0] rfl)
def f_X5_adds (ye : Int32) (bOs : Nat → Int32) (bOn : Nat → Int32) (yop : Int32) (bSo : Nat → Int32) (bNu : Nat → Int32) (ytr : Int32) (yiw : Int32) (wMa : Nat → Int64) (v1 : Int32) (v2 : Int32) (v3 : Int32) : Option ((Nat → Int32) × (Nat → Int32) × Int32 × Int32 × (Nat → Int64)) :=
  f_X5_adds_L3 ye bOs bOn yop v1 v2 v3 FU bSo bNu ytr yiw wMa 0
set_option maxHeartbeats 4000000 in
set_option maxRecDepth 100000 in
theorem k_X5_adds {l : Launch} {G : GG} {q : Nat → Nat} {fr : va_W}  {yp : Int32} {ye : Int32} {yg : Int32} {bPo : Nat → Int32} {bTb : Nat → Int32} {wSh : Nat → Int64} {wTe : Nat → Int64} {wNx : Nat → Int64} {bOs : Nat → Int32} {bOn : Nat → Int32} {yop : Int32} {bSo : Nat → Int32} {bNu : Nat → Int32} {ytr : Int32} {yiw : Int32} {wMa : Nat → Int64} {wPr : Nat → Int64} {bTp : Nat → Int32} {yln : Int32} {ypl : Int32} {yfa : Int32} {wLi : Nat → Int64} {bSi : Nat → Int32} {yhp : Int32} {yhe : Int32} {yhg : Int32} {wHs : Nat → Int64} {yhi : Int32} {v1 : Int32} {v2 : Int32} {v3 : Int32} {z : (Nat → Int32) × (Nat → Int32) × Int32 × Int32 × (Nat → Int64)}  (h : f_X5_adds ye bOs bOn yop bSo bNu ytr yiw wMa v1 v2 v3 = some z) : Ct l G yX5_adds cX5_adds 9 none 2 102 [.ref (q 0), .int v1, .int v2, .int v3] (mW G q yp ye yg bPo bTb wSh wTe wNx bOs bOn yop bSo bNu ytr yiw wMa wPr bTp yln ypl yfa wLi bSi yhp yhe yhg wHs yhi ++ fr) (none) (mW G q yp ye yg bPo bTb wSh wTe wNx bOs bOn yop z.1 z.2.1 z.2.2.1 z.2.2.2.1 z.2.2.2.2 wPr bTp yln ypl yfa wLi bSi yhp yhe yhg wHs yhi ++ fr) := by
  refine Ct.of (by decide +kernel) (Nat.le_of_ble_eq_true rfl) trivial ?_
  intro p e s m args below meth c Q A ls F hw hA hE hl
  have hx := F.x
  have hb := F.b
  unfold f_X5_adds at h
  obtain ⟨H, hH⟩ : ∃ H, H = s.heap := ⟨_, rfl⟩
  obtain ⟨locs, hlo⟩ : ∃ locs : List Loc, locs = [] := ⟨_, rfl⟩
  rw [← hH, ← hlo] at hw ⊢
  have hl : lv_has ls 9 [(0, .ref (q 0)), (1, .int v1), (2, .int v2), (3, .int v3)] := hl
  refine lv_iconst (v := 0) hx hb dX5_adds_0 (by decide) ?_
  refine lv_istore (lv' := [(4, .int 0), (0, .ref (q 0)), (1, .int v1), (2, .int v2), (3, .int v3)]) hx hb dX5_adds_1 hl (by decide) rfl (fun ls hl => ?_)
  exact w_X5_adds_L3 F hA  FU _ _ _ _ _ _ z h hE H locs ls hw (lv_sub hl [1, 2, 3, 4, 0] rfl)
end
theorem dX5_takes_0 : decode cX5_takes 0 = .ok (.aload_n 0, 1) := by decide +kernel
theorem dX5_takes_1 : decode cX5_takes 1 = .ok (.getfield 18, 3) := by decide +kernel
theorem dX5_takes_4 : decode cX5_takes 4 = .ok (.bipush 12, 2) := by decide +kernel
theorem dX5_takes_6 : decode cX5_takes 6 = .ok (.iload_n 2, 1) := by decide +kernel
theorem dX5_takes_7 : decode cX5_takes 7 = .ok (.imul, 1) := by decide +kernel
theorem dX5_takes_8 : decode cX5_takes 8 = .ok (.aload_n 0, 1) := by decide +kernel
theorem dX5_takes_9 : decode cX5_takes 9 = .ok (.getfield 40, 3) := by decide +kernel
theorem dX5_takes_12 : decode cX5_takes 12 = .ok (.bipush 12, 2) := by decide +kernel
theorem dX5_takes_14 : decode cX5_takes 14 = .ok (.iload_n 1, 1) := by decide +kernel
theorem dX5_takes_15 : decode cX5_takes 15 = .ok (.imul, 1) := by decide +kernel
theorem dX5_takes_16 : decode cX5_takes 16 = .ok (.aload_n 0, 1) := by decide +kernel
theorem dX5_takes_17 : decode cX5_takes 17 = .ok (.getfield 66, 3) := by decide +kernel
theorem dX5_takes_20 : decode cX5_takes 20 = .ok (.invokestatic 132, 3) := by decide +kernel
theorem dX5_takes_23 : decode cX5_takes 23 = .ok (.return_, 1) := by decide +kernel
section
variable {p : Program} {l : Launch} {e : Env} {s : State} {m : MethodId} {args : Array Value} {below : List Frame} {meth : Method} {c : Code} {Q : State → Prop} {G : GG} {A : Nat → Prop} {q : Nat → Nat} {fr : va_W}
def f_X5_takes (ye : Int32) (wSh : Nat → Int64) (wMa : Nat → Int64) (v1 : Int32) (v2 : Int32) : Option ((Nat → Int64)) :=
  if cpk (12 * v2) (12 * v1) ye 48 480 then
  some (va_cpy wSh wMa (12 * v2).toNatClampNeg (12 * v1).toNatClampNeg ye.toNatClampNeg)
  else none
set_option maxHeartbeats 4000000 in
set_option maxRecDepth 100000 in
theorem k_X5_takes {l : Launch} {G : GG} {q : Nat → Nat} {fr : va_W}  {yp : Int32} {ye : Int32} {yg : Int32} {bPo : Nat → Int32} {bTb : Nat → Int32} {wSh : Nat → Int64} {wTe : Nat → Int64} {wNx : Nat → Int64} {bOs : Nat → Int32} {bOn : Nat → Int32} {yop : Int32} {bSo : Nat → Int32} {bNu : Nat → Int32} {ytr : Int32} {yiw : Int32} {wMa : Nat → Int64} {wPr : Nat → Int64} {bTp : Nat → Int32} {yln : Int32} {ypl : Int32} {yfa : Int32} {wLi : Nat → Int64} {bSi : Nat → Int32} {yhp : Int32} {yhe : Int32} {yhg : Int32} {wHs : Nat → Int64} {yhi : Int32} {v1 : Int32} {v2 : Int32} {z : (Nat → Int64)}  (h : f_X5_takes ye wSh wMa v1 v2 = some z) : Ct l G yX5_takes cX5_takes 3 none 1 80 [.ref (q 0), .int v1, .int v2] (mW G q yp ye yg bPo bTb wSh wTe wNx bOs bOn yop bSo bNu ytr yiw wMa wPr bTp yln ypl yfa wLi bSi yhp yhe yhg wHs yhi ++ fr) (none) (mW G q yp ye yg bPo bTb wSh wTe wNx bOs bOn yop bSo bNu ytr yiw z wPr bTp yln ypl yfa wLi bSi yhp yhe yhg wHs yhi ++ fr) := by
  refine Ct.of (by decide +kernel) (Nat.le_of_ble_eq_true rfl) trivial ?_
  intro p e s m args below meth c Q A ls F hw hA hE hl
  have hx := F.x
  have hb := F.b
  unfold f_X5_takes at h
  obtain ⟨H, hH⟩ : ∃ H, H = s.heap := ⟨_, rfl⟩
  obtain ⟨locs, hlo⟩ : ∃ locs : List Loc, locs = [] := ⟨_, rfl⟩
  rw [← hH, ← hlo] at hw ⊢
  have hl : lv_has ls 3 [(0, .ref (q 0)), (1, .int v1), (2, .int v2)] := hl
  refine lv_aload_n hx hb dX5_takes_0 rfl (lv_at hl 0 rfl) ?_
  refine gf_5_18 F hw dX5_takes_1 ?_
  refine lv_bipush (v := 12) hx hb dX5_takes_4 (by decide) ?_
  refine lv_iload_n hx hb dX5_takes_6 rfl (lv_at hl 2 rfl) ?_
  refine lv_imul hx hb dX5_takes_7 ?_
  refine lv_aload_n hx hb dX5_takes_8 rfl (lv_at hl 0 rfl) ?_
  refine gf_5_40 F hw dX5_takes_9 ?_
  refine lv_bipush (v := 12) hx hb dX5_takes_12 (by decide) ?_
  refine lv_iload_n hx hb dX5_takes_14 rfl (lv_at hl 1 rfl) ?_
  refine lv_imul hx hb dX5_takes_15 ?_
  refine lv_aload_n hx hb dX5_takes_16 rfl (lv_at hl 0 rfl) ?_
  refine gf_5_66 F hw dX5_takes_17 ?_
  obtain ⟨g1, h⟩ := stG h
  refine va_copyl F.x F.b (F.ml.trans hl.1.symm) F.ow (F.ts _ kac1) (F.ts _ kac2) (F.ts _ kac3) (F.ts _ kac4) hw.1 hw.2.1 hw.2.2.1 hw.2.2.2 3 10 2 2 (f := wSh) (g := wMa) (n0 := 48) (n1 := 480) (ty := .long) rfl rfl rfl rfl rfl (cpk1 g1) (cpk2 g1) (cpk3 g1) (cpk4 g1) (cpk5 g1) (fun _ _ => rfl) (by decide) (by decide) dX5_takes_20 (fun H locs hP hD hS => ?_)
  have hw : Wd G s A (mW G q yp ye yg bPo bTb wSh wTe wNx bOs bOn yop bSo bNu ytr yiw (va_cpy wSh wMa (12 * v2).toNatClampNeg (12 * v1).toNatClampNeg ye.toNatClampNeg) wPr bTp yln ypl yfa wLi bSi yhp yhe yhg wHs yhi ++ fr) H locs := ⟨hw.1, hP, hD, hS⟩
  obtain rfl := Option.some.inj h
  exact hE H locs _ ls hw dX5_takes_23
end
theorem dX5_becomesWhole_0 : decode cX5_becomesWhole 0 = .ok (.iconst 0, 1) := by decide +kernel
theorem dX5_becomesWhole_1 : decode cX5_becomesWhole 1 = .ok (.istore 4, 2) := by decide +kernel
theorem dX5_becomesWhole_3 : decode cX5_becomesWhole 3 = .ok (.iload 4, 2) := by decide +kernel
theorem dX5_becomesWhole_5 : decode cX5_becomesWhole 5 = .ok (.aload_n 0, 1) := by decide +kernel
theorem dX5_becomesWhole_6 : decode cX5_becomesWhole 6 = .ok (.getfield 66, 3) := by decide +kernel
theorem dX5_becomesWhole_9 : decode cX5_becomesWhole 9 = .ok (.if_icmp .ge 23, 3) := by decide +kernel
theorem dX5_becomesWhole_12 : decode cX5_becomesWhole 12 = .ok (.aload_n 0, 1) := by decide +kernel
theorem dX5_becomesWhole_13 : decode cX5_becomesWhole 13 = .ok (.getfield 40, 3) := by decide +kernel
theorem dX5_becomesWhole_16 : decode cX5_becomesWhole 16 = .ok (.bipush 12, 2) := by decide +kernel
theorem dX5_becomesWhole_18 : decode cX5_becomesWhole 18 = .ok (.iload_n 1, 1) := by decide +kernel
theorem dX5_becomesWhole_19 : decode cX5_becomesWhole 19 = .ok (.imul, 1) := by decide +kernel
theorem dX5_becomesWhole_20 : decode cX5_becomesWhole 20 = .ok (.iload 4, 2) := by decide +kernel
theorem dX5_becomesWhole_22 : decode cX5_becomesWhole 22 = .ok (.iadd, 1) := by decide +kernel
theorem dX5_becomesWhole_23 : decode cX5_becomesWhole 23 = .ok (.lload_n 2, 1) := by decide +kernel
theorem dX5_becomesWhole_24 : decode cX5_becomesWhole 24 = .ok (.lneg, 1) := by decide +kernel
theorem dX5_becomesWhole_25 : decode cX5_becomesWhole 25 = .ok (.lastore, 1) := by decide +kernel
theorem dX5_becomesWhole_26 : decode cX5_becomesWhole 26 = .ok (.iinc 4 1, 3) := by decide +kernel
theorem dX5_becomesWhole_29 : decode cX5_becomesWhole 29 = .ok (.goto (-26), 3) := by decide +kernel
theorem dX5_becomesWhole_32 : decode cX5_becomesWhole 32 = .ok (.return_, 1) := by decide +kernel
section
variable {p : Program} {l : Launch} {e : Env} {s : State} {m : MethodId} {args : Array Value} {below : List Frame} {meth : Method} {c : Code} {Q : State → Prop} {G : GG} {A : Nat → Prop} {q : Nat → Nat} {fr : va_W}
def f_X5_becomesWhole_L3 (ye : Int32) (v1 : Int32) (v2 : Int64) : Nat → (Nat → Int64) → Int32 → Option ((Nat → Int64))
  | 0, _, _ => none
  | fu + 1, wMa, v4 =>
    if ye ≤ v4 then
    some wMa
    else
    if inb ((12 * v1) + v4) 480 then
    f_X5_becomesWhole_L3 ye v1 v2 fu (vp_updL wMa ((12 * v1) + v4).toNatClampNeg (-v2)) (v4 + 1)
    else none
set_option maxHeartbeats 4000000 in
set_option maxRecDepth 100000 in
theorem w_X5_becomesWhole_L3  {yp : Int32} {ye : Int32} {yg : Int32} {bPo : Nat → Int32} {bTb : Nat → Int32} {wSh : Nat → Int64} {wTe : Nat → Int64} {wNx : Nat → Int64} {bOs : Nat → Int32} {bOn : Nat → Int32} {yop : Int32} {bSo : Nat → Int32} {bNu : Nat → Int32} {ytr : Int32} {yiw : Int32} {wPr : Nat → Int64} {bTp : Nat → Int32} {yln : Int32} {ypl : Int32} {yfa : Int32} {wLi : Nat → Int64} {bSi : Nat → Int32} {yhp : Int32} {yhe : Int32} {yhg : Int32} {wHs : Nat → Int64} {yhi : Int32} {v1 : Int32} {v2 : Int64}  (F : Fx p s m args meth c cX5_becomesWhole 5 RX5 none) (hA : ∀ q, s.heap.size ≤ q → A q)   : ∀ (fu : Nat) (wMa : Nat → Int64) (v4 : Int32) (z : (Nat → Int64)), f_X5_becomesWhole_L3 ye v1 v2 fu wMa v4 = some z → Ends p l e (rmOf 0 0) s m args below meth c Q cX5_becomesWhole G A none (none) (mW G q yp ye yg bPo bTb wSh wTe wNx bOs bOn yop bSo bNu ytr yiw z wPr bTp yln ypl yfa wLi bSi yhp yhe yhg wHs yhi ++ fr) → ∀ (H : Heap) (locs : List Loc) (ls : Array Slot), Wd G s A (mW G q yp ye yg bPo bTb wSh wTe wNx bOs bOn yop bSo bNu ytr yiw wMa wPr bTp yln ypl yfa wLi bSi yhp yhe yhg wHs yhi ++ fr) H locs → lv_has ls 5 [(0, .ref (q 0)), (1, .int v1), (2, .long v2), (4, .int v4)] → W p l e (rmOf 0 0) s m args below meth c H locs 0 0 Q (F0 m 3 ls []) := by
  have hx := F.x
  have hb := F.b
  intro fu
  induction fu with
  | zero =>
    intro wMa v4 z h
    cases (h : none = some z)
  | succ fu ih =>
    intro wMa v4 z h hE H locs ls hw hl
    rw [f_X5_becomesWhole_L3] at h
    refine lv_iload hx hb dX5_becomesWhole_3 (lv_at hl 3 rfl) ?_
    refine lv_aload_n hx hb dX5_becomesWhole_5 rfl (lv_at hl 0 rfl) ?_
    refine gf_5_66 F hw dX5_becomesWhole_6 ?_
    refine lv_icmp_ge (tgt := 32) hx hb dX5_becomesWhole_9 (by decide) (fun c1 => ?_) (fun c1 => ?_)
    · replace h := stT c1 h
      obtain rfl := Option.some.inj h
      exact hE H locs _ ls hw dX5_becomesWhole_32
    · replace h := stF c1 h
      refine lv_aload_n hx hb dX5_becomesWhole_12 rfl (lv_at hl 0 rfl) ?_
      refine gf_5_40 F hw dX5_becomesWhole_13 ?_
      refine lv_bipush (v := 12) hx hb dX5_becomesWhole_16 (by decide) ?_
      refine lv_iload_n hx hb dX5_becomesWhole_18 rfl (lv_at hl 1 rfl) ?_
      refine lv_imul hx hb dX5_becomesWhole_19 ?_
      refine lv_iload hx hb dX5_becomesWhole_20 (lv_at hl 3 rfl) ?_
      refine lv_iadd hx hb dX5_becomesWhole_22 ?_
      refine lv_lload_n hx hb dX5_becomesWhole_23 rfl (lv_at hl 2 rfl) ?_
      refine lv_lneg hx hb dX5_becomesWhole_24 ?_
      obtain ⟨g2, h⟩ := stG h
      refine as_m10 F hw g2 dX5_becomesWhole_25 (fun H locs hw => ?_)
      refine lv_iinc (v := (v4 + 1)) (lv' := [(4, .int (v4 + 1)), (0, .ref (q 0)), (1, .int v1), (2, .long v2)]) hx hb dX5_becomesWhole_26 hl (k := 3) rfl rfl (by decide) rfl (fun ls hl => ?_)
      refine lv_goto (tgt := 3) hx hb dX5_becomesWhole_29 (by decide) ?_
      exact ih _ _ z h hE H locs ls hw (lv_sub hl [1, 2, 3, 0] rfl)
def f_X5_becomesWhole (ye : Int32) (wMa : Nat → Int64) (v1 : Int32) (v2 : Int64) : Option ((Nat → Int64)) :=
  f_X5_becomesWhole_L3 ye v1 v2 FU wMa 0
set_option maxHeartbeats 4000000 in
set_option maxRecDepth 100000 in
theorem k_X5_becomesWhole {l : Launch} {G : GG} {q : Nat → Nat} {fr : va_W}  {yp : Int32} {ye : Int32} {yg : Int32} {bPo : Nat → Int32} {bTb : Nat → Int32} {wSh : Nat → Int64} {wTe : Nat → Int64} {wNx : Nat → Int64} {bOs : Nat → Int32} {bOn : Nat → Int32} {yop : Int32} {bSo : Nat → Int32} {bNu : Nat → Int32} {ytr : Int32} {yiw : Int32} {wMa : Nat → Int64} {wPr : Nat → Int64} {bTp : Nat → Int32} {yln : Int32} {ypl : Int32} {yfa : Int32} {wLi : Nat → Int64} {bSi : Nat → Int32} {yhp : Int32} {yhe : Int32} {yhg : Int32} {wHs : Nat → Int64} {yhi : Int32} {v1 : Int32} {v2 : Int64} {z : (Nat → Int64)}  (h : f_X5_becomesWhole ye wMa v1 v2 = some z) : Ct l G yX5_becomesWhole cX5_becomesWhole 5 none 0 0 [.ref (q 0), .int v1, .long v2] (mW G q yp ye yg bPo bTb wSh wTe wNx bOs bOn yop bSo bNu ytr yiw wMa wPr bTp yln ypl yfa wLi bSi yhp yhe yhg wHs yhi ++ fr) (none) (mW G q yp ye yg bPo bTb wSh wTe wNx bOs bOn yop bSo bNu ytr yiw z wPr bTp yln ypl yfa wLi bSi yhp yhe yhg wHs yhi ++ fr) := by
  refine Ct.of (by decide +kernel) (Nat.le_of_ble_eq_true rfl) trivial ?_
  intro p e s m args below meth c Q A ls F hw hA hE hl
  have hx := F.x
  have hb := F.b
  unfold f_X5_becomesWhole at h
  obtain ⟨H, hH⟩ : ∃ H, H = s.heap := ⟨_, rfl⟩
  obtain ⟨locs, hlo⟩ : ∃ locs : List Loc, locs = [] := ⟨_, rfl⟩
  rw [← hH, ← hlo] at hw ⊢
  have hl : lv_has ls 5 [(0, .ref (q 0)), (1, .int v1), (2, .long v2)] := hl
  refine lv_iconst (v := 0) hx hb dX5_becomesWhole_0 (by decide) ?_
  refine lv_istore (lv' := [(4, .int 0), (0, .ref (q 0)), (1, .int v1), (2, .long v2)]) hx hb dX5_becomesWhole_1 hl (by decide) rfl (fun ls hl => ?_)
  exact w_X5_becomesWhole_L3 F hA  FU _ _ z h hE H locs ls hw (lv_sub hl [1, 2, 3, 0] rfl)
end
theorem dX5_lays_0 : decode cX5_lays 0 = .ok (.aload_n 0, 1) := by decide +kernel
theorem dX5_lays_1 : decode cX5_lays 1 = .ok (.getfield 150, 3) := by decide +kernel
theorem dX5_lays_4 : decode cX5_lays 4 = .ok (.ifCond .eq 6, 3) := by decide +kernel
theorem dX5_lays_7 : decode cX5_lays 7 = .ok (.bipush (-9), 2) := by decide +kernel
theorem dX5_lays_9 : decode cX5_lays 9 = .ok (.ireturn, 1) := by decide +kernel
theorem dX5_lays_10 : decode cX5_lays 10 = .ok (.aload_n 0, 1) := by decide +kernel
theorem dX5_lays_11 : decode cX5_lays 11 = .ok (.getfield 40, 3) := by decide +kernel
theorem dX5_lays_14 : decode cX5_lays 14 = .ok (.iconst 0, 1) := by decide +kernel
theorem dX5_lays_15 : decode cX5_lays 15 = .ok (.aload_n 0, 1) := by decide +kernel
theorem dX5_lays_16 : decode cX5_lays 16 = .ok (.getfield 18, 3) := by decide +kernel
theorem dX5_lays_19 : decode cX5_lays 19 = .ok (.bipush 12, 2) := by decide +kernel
theorem dX5_lays_21 : decode cX5_lays 21 = .ok (.iload_n 1, 1) := by decide +kernel
theorem dX5_lays_22 : decode cX5_lays 22 = .ok (.imul, 1) := by decide +kernel
theorem dX5_lays_23 : decode cX5_lays 23 = .ok (.aload_n 0, 1) := by decide +kernel
theorem dX5_lays_24 : decode cX5_lays 24 = .ok (.getfield 66, 3) := by decide +kernel
theorem dX5_lays_27 : decode cX5_lays 27 = .ok (.invokestatic 132, 3) := by decide +kernel
theorem dX5_lays_30 : decode cX5_lays 30 = .ok (.iconst 1, 1) := by decide +kernel
theorem dX5_lays_31 : decode cX5_lays 31 = .ok (.ireturn, 1) := by decide +kernel
section
variable {p : Program} {l : Launch} {e : Env} {s : State} {m : MethodId} {args : Array Value} {below : List Frame} {meth : Method} {c : Code} {Q : State → Prop} {G : GG} {A : Nat → Prop} {q : Nat → Nat} {fr : va_W}
def f_X5_lays (ye : Int32) (wSh : Nat → Int64) (yiw : Int32) (wMa : Nat → Int64) (v1 : Int32) : Option (Int32 × (Nat → Int64)) :=
  if yiw = 0 then
  if cpk 0 (12 * v1) ye 480 48 then
  some (1, (va_cpy wMa wSh (0 : Int32).toNatClampNeg (12 * v1).toNatClampNeg ye.toNatClampNeg))
  else none
  else
  some ((-9), wSh)
set_option maxHeartbeats 4000000 in
set_option maxRecDepth 100000 in
theorem k_X5_lays {l : Launch} {G : GG} {q : Nat → Nat} {fr : va_W}  {yp : Int32} {ye : Int32} {yg : Int32} {bPo : Nat → Int32} {bTb : Nat → Int32} {wSh : Nat → Int64} {wTe : Nat → Int64} {wNx : Nat → Int64} {bOs : Nat → Int32} {bOn : Nat → Int32} {yop : Int32} {bSo : Nat → Int32} {bNu : Nat → Int32} {ytr : Int32} {yiw : Int32} {wMa : Nat → Int64} {wPr : Nat → Int64} {bTp : Nat → Int32} {yln : Int32} {ypl : Int32} {yfa : Int32} {wLi : Nat → Int64} {bSi : Nat → Int32} {yhp : Int32} {yhe : Int32} {yhg : Int32} {wHs : Nat → Int64} {yhi : Int32} {v1 : Int32} {z : Int32 × (Nat → Int64)}  (h : f_X5_lays ye wSh yiw wMa v1 = some z) : Ct l G yX5_lays cX5_lays 2 (some .int) 1 80 [.ref (q 0), .int v1] (mW G q yp ye yg bPo bTb wSh wTe wNx bOs bOn yop bSo bNu ytr yiw wMa wPr bTp yln ypl yfa wLi bSi yhp yhe yhg wHs yhi ++ fr) (some (.int z.1)) (mW G q yp ye yg bPo bTb z.2 wTe wNx bOs bOn yop bSo bNu ytr yiw wMa wPr bTp yln ypl yfa wLi bSi yhp yhe yhg wHs yhi ++ fr) := by
  refine Ct.of (by decide +kernel) (Nat.le_of_ble_eq_true rfl) trivial ?_
  intro p e s m args below meth c Q A ls F hw hA hE hl
  have hx := F.x
  have hb := F.b
  unfold f_X5_lays at h
  obtain ⟨H, hH⟩ : ∃ H, H = s.heap := ⟨_, rfl⟩
  obtain ⟨locs, hlo⟩ : ∃ locs : List Loc, locs = [] := ⟨_, rfl⟩
  rw [← hH, ← hlo] at hw ⊢
  have hl : lv_has ls 2 [(0, .ref (q 0)), (1, .int v1)] := hl
  refine lv_aload_n hx hb dX5_lays_0 rfl (lv_at hl 0 rfl) ?_
  refine gf_5_150 F hw dX5_lays_1 ?_
  refine lv_if_eq (tgt := 10) hx hb dX5_lays_4 (by decide) (fun c1 => ?_) (fun c1 => ?_)
  · replace h := stT c1 h
    refine lv_aload_n hx hb dX5_lays_10 rfl (lv_at hl 0 rfl) ?_
    refine gf_5_40 F hw dX5_lays_11 ?_
    refine lv_iconst (v := 0) hx hb dX5_lays_14 (by decide) ?_
    refine lv_aload_n hx hb dX5_lays_15 rfl (lv_at hl 0 rfl) ?_
    refine gf_5_18 F hw dX5_lays_16 ?_
    refine lv_bipush (v := 12) hx hb dX5_lays_19 (by decide) ?_
    refine lv_iload_n hx hb dX5_lays_21 rfl (lv_at hl 1 rfl) ?_
    refine lv_imul hx hb dX5_lays_22 ?_
    refine lv_aload_n hx hb dX5_lays_23 rfl (lv_at hl 0 rfl) ?_
    refine gf_5_66 F hw dX5_lays_24 ?_
    obtain ⟨g2, h⟩ := stG h
    refine va_copyl F.x F.b (F.ml.trans hl.1.symm) F.ow (F.ts _ kac1) (F.ts _ kac2) (F.ts _ kac3) (F.ts _ kac4) hw.1 hw.2.1 hw.2.2.1 hw.2.2.2 10 3 2 2 (f := wMa) (g := wSh) (n0 := 480) (n1 := 48) (ty := .long) rfl rfl rfl rfl rfl (cpk1 g2) (cpk2 g2) (cpk3 g2) (cpk4 g2) (cpk5 g2) (fun _ _ => rfl) (by decide) (by decide) dX5_lays_27 (fun H locs hP hD hS => ?_)
    have hw : Wd G s A (mW G q yp ye yg bPo bTb (va_cpy wMa wSh (0 : Int32).toNatClampNeg (12 * v1).toNatClampNeg ye.toNatClampNeg) wTe wNx bOs bOn yop bSo bNu ytr yiw wMa wPr bTp yln ypl yfa wLi bSi yhp yhe yhg wHs yhi ++ fr) H locs := ⟨hw.1, hP, hD, hS⟩
    refine lv_iconst (v := 1) hx hb dX5_lays_30 (by decide) ?_
    obtain rfl := Option.some.inj h
    exact hE H locs _ ls hw dX5_lays_31
  · replace h := stF c1 h
    refine lv_bipush (v := -9) hx hb dX5_lays_7 (by decide) ?_
    obtain rfl := Option.some.inj h
    exact hE H locs _ ls hw dX5_lays_9
end
theorem dX5_isShelf_0 : decode cX5_isShelf 0 = .ok (.iload_n 0, 1) := by decide +kernel
theorem dX5_isShelf_1 : decode cX5_isShelf 1 = .ok (.i2l, 1) := by decide +kernel
theorem dX5_isShelf_2 : decode cX5_isShelf 2 = .ok (.lconst 0, 1) := by decide +kernel
theorem dX5_isShelf_3 : decode cX5_isShelf 3 = .ok (.ldc2_w 94, 3) := by decide +kernel
theorem dX5_isShelf_6 : decode cX5_isShelf 6 = .ok (.invokestatic 90, 3) := by decide +kernel
theorem dX5_isShelf_9 : decode cX5_isShelf 9 = .ok (.ireturn, 1) := by decide +kernel
section
variable {p : Program} {l : Launch} {e : Env} {s : State} {m : MethodId} {args : Array Value} {below : List Frame} {meth : Method} {c : Code} {Q : State → Prop} {G : GG} {A : Nat → Prop} {q : Nat → Nat} {fr : va_W}
def f_X5_isShelf (v0 : Int32) : Option (Int32) :=
  (f_X5_in v0.toInt64 0 3).bind fun z1 =>
  if z1 = 0 ∨ z1 = 1 then
  some z1
  else none
set_option maxHeartbeats 4000000 in
set_option maxRecDepth 100000 in
theorem k_X5_isShelf {l : Launch} {G : GG} {fr : va_W}   {v0 : Int32} {z : Int32}  (h : f_X5_isShelf v0 = some z) : Ct l G yX5_isShelf cX5_isShelf 1 (some .boolean) 1 25 [.int v0] fr (some (.int z)) fr := by
  refine Ct.of (by decide +kernel) (Nat.le_of_ble_eq_true rfl) trivial ?_
  intro p e s m args below meth c Q A ls F hw hA hE hl
  have hx := F.x
  have hb := F.b
  unfold f_X5_isShelf at h
  obtain ⟨H, hH⟩ : ∃ H, H = s.heap := ⟨_, rfl⟩
  obtain ⟨locs, hlo⟩ : ∃ locs : List Loc, locs = [] := ⟨_, rfl⟩
  rw [← hH, ← hlo] at hw ⊢
  have hl : lv_has ls 1 [(0, .int v0)] := hl
  refine lv_iload_n hx hb dX5_isShelf_0 rfl (lv_at hl 0 rfl) ?_
  refine lv_i2l (v := v0.toInt64) hx hb dX5_isShelf_1 rfl ?_
  refine lv_lconst (v := 0) hx hb dX5_isShelf_2 (by decide) ?_
  refine lv_ldc2 (v := 3) hx hb F.ow (F.ts _ kc_5_94) dX5_isShelf_3 ?_
  obtain ⟨z1, hz1, h⟩ := stB h
  refine ctS (av := [.long v0.toInt64, .long 0, .long 3]) (st0 := ([] : List Value)) (st1 := ([.int z1] : List Value)) F hw hA (k_X5_in hz1) kl_5_90 kd_X5_in rfl ⟨by decide, by decide⟩ hl.1 rfl (Nat.le_of_ble_eq_true rfl) dX5_isShelf_6 rfl (fun H locs hw => ?_)
  obtain ⟨g2, h⟩ := stG h
  obtain rfl := Option.some.inj h
  exact hE H locs _ ls hw g2 dX5_isShelf_9
end
theorem dX5_put_0 : decode cX5_put 0 = .ok (.iload_n 1, 1) := by decide +kernel
theorem dX5_put_1 : decode cX5_put 1 = .ok (.invokestatic 174, 3) := by decide +kernel
theorem dX5_put_4 : decode cX5_put 4 = .ok (.ifCond .eq 11, 3) := by decide +kernel
theorem dX5_put_7 : decode cX5_put 7 = .ok (.aload_n 0, 1) := by decide +kernel
theorem dX5_put_8 : decode cX5_put 8 = .ok (.iload_n 2, 1) := by decide +kernel
theorem dX5_put_9 : decode cX5_put 9 = .ok (.invokevirtual 114, 3) := by decide +kernel
theorem dX5_put_12 : decode cX5_put 12 = .ok (.ifCond .ne 5, 3) := by decide +kernel
theorem dX5_put_15 : decode cX5_put 15 = .ok (.iconst (-1), 1) := by decide +kernel
theorem dX5_put_16 : decode cX5_put 16 = .ok (.ireturn, 1) := by decide +kernel
theorem dX5_put_17 : decode cX5_put 17 = .ok (.aload_n 0, 1) := by decide +kernel
theorem dX5_put_18 : decode cX5_put 18 = .ok (.getfield 18, 3) := by decide +kernel
theorem dX5_put_21 : decode cX5_put 21 = .ok (.bipush 12, 2) := by decide +kernel
theorem dX5_put_23 : decode cX5_put 23 = .ok (.iload_n 1, 1) := by decide +kernel
theorem dX5_put_24 : decode cX5_put 24 = .ok (.imul, 1) := by decide +kernel
theorem dX5_put_25 : decode cX5_put 25 = .ok (.iload_n 2, 1) := by decide +kernel
theorem dX5_put_26 : decode cX5_put 26 = .ok (.iadd, 1) := by decide +kernel
theorem dX5_put_27 : decode cX5_put 27 = .ok (.lload_n 3, 1) := by decide +kernel
theorem dX5_put_28 : decode cX5_put 28 = .ok (.lastore, 1) := by decide +kernel
theorem dX5_put_29 : decode cX5_put 29 = .ok (.iconst 1, 1) := by decide +kernel
theorem dX5_put_30 : decode cX5_put 30 = .ok (.ireturn, 1) := by decide +kernel
section
variable {p : Program} {l : Launch} {e : Env} {s : State} {m : MethodId} {args : Array Value} {below : List Frame} {meth : Method} {c : Code} {Q : State → Prop} {G : GG} {A : Nat → Prop} {q : Nat → Nat} {fr : va_W}
def f_X5_put (ye : Int32) (wSh : Nat → Int64) (v1 : Int32) (v2 : Int32) (v3 : Int64) : Option (Int32 × (Nat → Int64)) :=
  (f_X5_isShelf v1).bind fun z1 =>
  if z1 = 0 then
  some ((-1), wSh)
  else
  (f_X5_isClass ye v2).bind fun z3 =>
  if z3 = 0 then
  some ((-1), wSh)
  else
  if inb ((12 * v1) + v2) 48 then
  some (1, (vp_updL wSh ((12 * v1) + v2).toNatClampNeg v3))
  else none
set_option maxHeartbeats 4000000 in
set_option maxRecDepth 100000 in
theorem k_X5_put {l : Launch} {G : GG} {q : Nat → Nat} {fr : va_W}  {yp : Int32} {ye : Int32} {yg : Int32} {bPo : Nat → Int32} {bTb : Nat → Int32} {wSh : Nat → Int64} {wTe : Nat → Int64} {wNx : Nat → Int64} {bOs : Nat → Int32} {bOn : Nat → Int32} {yop : Int32} {bSo : Nat → Int32} {bNu : Nat → Int32} {ytr : Int32} {yiw : Int32} {wMa : Nat → Int64} {wPr : Nat → Int64} {bTp : Nat → Int32} {yln : Int32} {ypl : Int32} {yfa : Int32} {wLi : Nat → Int64} {bSi : Nat → Int32} {yhp : Int32} {yhe : Int32} {yhg : Int32} {wHs : Nat → Int64} {yhi : Int32} {v1 : Int32} {v2 : Int32} {v3 : Int64} {z : Int32 × (Nat → Int64)}  (h : f_X5_put ye wSh v1 v2 v3 = some z) : Ct l G yX5_put cX5_put 5 (some .int) 2 46 [.ref (q 0), .int v1, .int v2, .long v3] (mW G q yp ye yg bPo bTb wSh wTe wNx bOs bOn yop bSo bNu ytr yiw wMa wPr bTp yln ypl yfa wLi bSi yhp yhe yhg wHs yhi ++ fr) (some (.int z.1)) (mW G q yp ye yg bPo bTb z.2 wTe wNx bOs bOn yop bSo bNu ytr yiw wMa wPr bTp yln ypl yfa wLi bSi yhp yhe yhg wHs yhi ++ fr) := by
  refine Ct.of (by decide +kernel) (Nat.le_of_ble_eq_true rfl) trivial ?_
  intro p e s m args below meth c Q A ls F hw hA hE hl
  have hx := F.x
  have hb := F.b
  unfold f_X5_put at h
  obtain ⟨H, hH⟩ : ∃ H, H = s.heap := ⟨_, rfl⟩
  obtain ⟨locs, hlo⟩ : ∃ locs : List Loc, locs = [] := ⟨_, rfl⟩
  rw [← hH, ← hlo] at hw ⊢
  have hl : lv_has ls 5 [(0, .ref (q 0)), (1, .int v1), (2, .int v2), (3, .long v3)] := hl
  refine lv_iload_n hx hb dX5_put_0 rfl (lv_at hl 1 rfl) ?_
  obtain ⟨z1, hz1, h⟩ := stB h
  refine ctS (av := [.int v1]) (st0 := ([] : List Value)) (st1 := ([.int z1] : List Value)) F hw hA (k_X5_isShelf hz1) kl_5_174 kd_X5_isShelf rfl ⟨by decide, by decide⟩ hl.1 rfl (Nat.le_of_ble_eq_true rfl) dX5_put_1 rfl (fun H locs hw => ?_)
  refine lv_if_eq (tgt := 15) hx hb dX5_put_4 (by decide) (fun c2 => ?_) (fun c2 => ?_)
  · replace h := stT c2 h
    refine lv_iconst (v := -1) hx hb dX5_put_15 (by decide) ?_
    obtain rfl := Option.some.inj h
    exact hE H locs _ ls hw dX5_put_16
  · replace h := stF c2 h
    refine lv_aload_n hx hb dX5_put_7 rfl (lv_at hl 0 rfl) ?_
    refine lv_iload_n hx hb dX5_put_8 rfl (lv_at hl 2 rfl) ?_
    obtain ⟨z3, hz3, h⟩ := stB h
    refine ctV (av := [.int v2]) (st0 := ([] : List Value)) (st1 := ([.int z3] : List Value)) F hw hA (k_X5_isClass hz3) kl_5_114 kd_X5_isClass rfl ⟨by decide, by decide⟩ 0 rfl rfl hl.1 rfl (Nat.le_of_ble_eq_true rfl) dX5_put_9 rfl (fun H locs hw => ?_)
    refine lv_if_ne (tgt := 17) hx hb dX5_put_12 (by decide) (fun c4 => ?_) (fun c4 => ?_)
    · replace h := stF c4 h
      refine lv_aload_n hx hb dX5_put_17 rfl (lv_at hl 0 rfl) ?_
      refine gf_5_18 F hw dX5_put_18 ?_
      refine lv_bipush (v := 12) hx hb dX5_put_21 (by decide) ?_
      refine lv_iload_n hx hb dX5_put_23 rfl (lv_at hl 1 rfl) ?_
      refine lv_imul hx hb dX5_put_24 ?_
      refine lv_iload_n hx hb dX5_put_25 rfl (lv_at hl 2 rfl) ?_
      refine lv_iadd hx hb dX5_put_26 ?_
      refine lv_lload_n hx hb dX5_put_27 rfl (lv_at hl 3 rfl) ?_
      obtain ⟨g5, h⟩ := stG h
      refine as_m3 F hw g5 dX5_put_28 (fun H locs hw => ?_)
      refine lv_iconst (v := 1) hx hb dX5_put_29 (by decide) ?_
      obtain rfl := Option.some.inj h
      exact hE H locs _ ls hw dX5_put_30
    · replace h := stT c4 h
      refine lv_iconst (v := -1) hx hb dX5_put_15 (by decide) ?_
      obtain rfl := Option.some.inj h
      exact hE H locs _ ls hw dX5_put_16
end
theorem dX5_of_0 : decode cX5_of 0 = .ok (.iload_n 1, 1) := by decide +kernel
theorem dX5_of_1 : decode cX5_of 1 = .ok (.invokestatic 174, 3) := by decide +kernel
theorem dX5_of_4 : decode cX5_of 4 = .ok (.ifCond .eq 25, 3) := by decide +kernel
theorem dX5_of_7 : decode cX5_of 7 = .ok (.aload_n 0, 1) := by decide +kernel
theorem dX5_of_8 : decode cX5_of 8 = .ok (.iload_n 2, 1) := by decide +kernel
theorem dX5_of_9 : decode cX5_of 9 = .ok (.invokevirtual 114, 3) := by decide +kernel
theorem dX5_of_12 : decode cX5_of 12 = .ok (.ifCond .eq 17, 3) := by decide +kernel
theorem dX5_of_15 : decode cX5_of 15 = .ok (.aload_n 0, 1) := by decide +kernel
theorem dX5_of_16 : decode cX5_of 16 = .ok (.getfield 18, 3) := by decide +kernel
theorem dX5_of_19 : decode cX5_of 19 = .ok (.bipush 12, 2) := by decide +kernel
theorem dX5_of_21 : decode cX5_of 21 = .ok (.iload_n 1, 1) := by decide +kernel
theorem dX5_of_22 : decode cX5_of 22 = .ok (.imul, 1) := by decide +kernel
theorem dX5_of_23 : decode cX5_of 23 = .ok (.iload_n 2, 1) := by decide +kernel
theorem dX5_of_24 : decode cX5_of 24 = .ok (.iadd, 1) := by decide +kernel
theorem dX5_of_25 : decode cX5_of 25 = .ok (.laload, 1) := by decide +kernel
theorem dX5_of_26 : decode cX5_of 26 = .ok (.goto 6, 3) := by decide +kernel
theorem dX5_of_29 : decode cX5_of 29 = .ok (.ldc2_w 138, 3) := by decide +kernel
theorem dX5_of_32 : decode cX5_of 32 = .ok (.lreturn, 1) := by decide +kernel
section
variable {p : Program} {l : Launch} {e : Env} {s : State} {m : MethodId} {args : Array Value} {below : List Frame} {meth : Method} {c : Code} {Q : State → Prop} {G : GG} {A : Nat → Prop} {q : Nat → Nat} {fr : va_W}
def f_X5_of (ye : Int32) (wSh : Nat → Int64) (v1 : Int32) (v2 : Int32) : Option (Int64) :=
  (f_X5_isShelf v1).bind fun z1 =>
  if z1 = 0 then
  some (-9223372036854775808)
  else
  (f_X5_isClass ye v2).bind fun z3 =>
  if z3 = 0 then
  some (-9223372036854775808)
  else
  if inb ((12 * v1) + v2) 48 then
  some (wSh ((12 * v1) + v2).toNatClampNeg)
  else none
set_option maxHeartbeats 4000000 in
set_option maxRecDepth 100000 in
theorem k_X5_of {l : Launch} {G : GG} {q : Nat → Nat} {fr : va_W}  {yp : Int32} {ye : Int32} {yg : Int32} {bPo : Nat → Int32} {bTb : Nat → Int32} {wSh : Nat → Int64} {wTe : Nat → Int64} {wNx : Nat → Int64} {bOs : Nat → Int32} {bOn : Nat → Int32} {yop : Int32} {bSo : Nat → Int32} {bNu : Nat → Int32} {ytr : Int32} {yiw : Int32} {wMa : Nat → Int64} {wPr : Nat → Int64} {bTp : Nat → Int32} {yln : Int32} {ypl : Int32} {yfa : Int32} {wLi : Nat → Int64} {bSi : Nat → Int32} {yhp : Int32} {yhe : Int32} {yhg : Int32} {wHs : Nat → Int64} {yhi : Int32} {v1 : Int32} {v2 : Int32} {z : Int64}  (h : f_X5_of ye wSh v1 v2 = some z) : Ct l G yX5_of cX5_of 3 (some .long) 2 46 [.ref (q 0), .int v1, .int v2] (mW G q yp ye yg bPo bTb wSh wTe wNx bOs bOn yop bSo bNu ytr yiw wMa wPr bTp yln ypl yfa wLi bSi yhp yhe yhg wHs yhi ++ fr) (some (.long z)) (mW G q yp ye yg bPo bTb wSh wTe wNx bOs bOn yop bSo bNu ytr yiw wMa wPr bTp yln ypl yfa wLi bSi yhp yhe yhg wHs yhi ++ fr) := by
  refine Ct.of (by decide +kernel) (Nat.le_of_ble_eq_true rfl) trivial ?_
  intro p e s m args below meth c Q A ls F hw hA hE hl
  have hx := F.x
  have hb := F.b
  unfold f_X5_of at h
  obtain ⟨H, hH⟩ : ∃ H, H = s.heap := ⟨_, rfl⟩
  obtain ⟨locs, hlo⟩ : ∃ locs : List Loc, locs = [] := ⟨_, rfl⟩
  rw [← hH, ← hlo] at hw ⊢
  have hl : lv_has ls 3 [(0, .ref (q 0)), (1, .int v1), (2, .int v2)] := hl
  refine lv_iload_n hx hb dX5_of_0 rfl (lv_at hl 1 rfl) ?_
  obtain ⟨z1, hz1, h⟩ := stB h
  refine ctS (av := [.int v1]) (st0 := ([] : List Value)) (st1 := ([.int z1] : List Value)) F hw hA (k_X5_isShelf hz1) kl_5_174 kd_X5_isShelf rfl ⟨by decide, by decide⟩ hl.1 rfl (Nat.le_of_ble_eq_true rfl) dX5_of_1 rfl (fun H locs hw => ?_)
  refine lv_if_eq (tgt := 29) hx hb dX5_of_4 (by decide) (fun c2 => ?_) (fun c2 => ?_)
  · replace h := stT c2 h
    refine lv_ldc2 (v := -9223372036854775808) hx hb F.ow (F.ts _ kc_5_138) dX5_of_29 ?_
    obtain rfl := Option.some.inj h
    exact hE H locs _ ls hw dX5_of_32
  · replace h := stF c2 h
    refine lv_aload_n hx hb dX5_of_7 rfl (lv_at hl 0 rfl) ?_
    refine lv_iload_n hx hb dX5_of_8 rfl (lv_at hl 2 rfl) ?_
    obtain ⟨z3, hz3, h⟩ := stB h
    refine ctV (av := [.int v2]) (st0 := ([] : List Value)) (st1 := ([.int z3] : List Value)) F hw hA (k_X5_isClass hz3) kl_5_114 kd_X5_isClass rfl ⟨by decide, by decide⟩ 0 rfl rfl hl.1 rfl (Nat.le_of_ble_eq_true rfl) dX5_of_9 rfl (fun H locs hw => ?_)
    refine lv_if_eq (tgt := 29) hx hb dX5_of_12 (by decide) (fun c4 => ?_) (fun c4 => ?_)
    · replace h := stT c4 h
      refine lv_ldc2 (v := -9223372036854775808) hx hb F.ow (F.ts _ kc_5_138) dX5_of_29 ?_
      obtain rfl := Option.some.inj h
      exact hE H locs _ ls hw dX5_of_32
    · replace h := stF c4 h
      refine lv_aload_n hx hb dX5_of_15 rfl (lv_at hl 0 rfl) ?_
      refine gf_5_18 F hw dX5_of_16 ?_
      refine lv_bipush (v := 12) hx hb dX5_of_19 (by decide) ?_
      refine lv_iload_n hx hb dX5_of_21 rfl (lv_at hl 1 rfl) ?_
      refine lv_imul hx hb dX5_of_22 ?_
      refine lv_iload_n hx hb dX5_of_23 rfl (lv_at hl 2 rfl) ?_
      refine lv_iadd hx hb dX5_of_24 ?_
      obtain ⟨g5, h⟩ := stG h
      refine al_m3 F hw g5 dX5_of_25 ?_
      refine lv_goto (tgt := 32) hx hb dX5_of_26 (by decide) ?_
      obtain rfl := Option.some.inj h
      exact hE H locs _ ls hw dX5_of_32
end
theorem dX5_whole_0 : decode cX5_whole 0 = .ok (.iload_n 1, 1) := by decide +kernel
theorem dX5_whole_1 : decode cX5_whole 1 = .ok (.invokestatic 174, 3) := by decide +kernel
theorem dX5_whole_4 : decode cX5_whole 4 = .ok (.ifCond .ne 5, 3) := by decide +kernel
theorem dX5_whole_7 : decode cX5_whole 7 = .ok (.iconst (-1), 1) := by decide +kernel
theorem dX5_whole_8 : decode cX5_whole 8 = .ok (.ireturn, 1) := by decide +kernel
theorem dX5_whole_9 : decode cX5_whole 9 = .ok (.aload_n 0, 1) := by decide +kernel
theorem dX5_whole_10 : decode cX5_whole 10 = .ok (.invokevirtual 177, 3) := by decide +kernel
theorem dX5_whole_13 : decode cX5_whole 13 = .ok (.aload_n 0, 1) := by decide +kernel
theorem dX5_whole_14 : decode cX5_whole 14 = .ok (.iconst 0, 1) := by decide +kernel
theorem dX5_whole_15 : decode cX5_whole 15 = .ok (.iload_n 2, 1) := by decide +kernel
theorem dX5_whole_16 : decode cX5_whole 16 = .ok (.i2l, 1) := by decide +kernel
theorem dX5_whole_17 : decode cX5_whole 17 = .ok (.invokevirtual 179, 3) := by decide +kernel
theorem dX5_whole_20 : decode cX5_whole 20 = .ok (.aload_n 0, 1) := by decide +kernel
theorem dX5_whole_21 : decode cX5_whole 21 = .ok (.iload_n 1, 1) := by decide +kernel
theorem dX5_whole_22 : decode cX5_whole 22 = .ok (.invokevirtual 183, 3) := by decide +kernel
theorem dX5_whole_25 : decode cX5_whole 25 = .ok (.ireturn, 1) := by decide +kernel
section
variable {p : Program} {l : Launch} {e : Env} {s : State} {m : MethodId} {args : Array Value} {below : List Frame} {meth : Method} {c : Code} {Q : State → Prop} {G : GG} {A : Nat → Prop} {q : Nat → Nat} {fr : va_W}
def f_X5_whole (ye : Int32) (wSh : Nat → Int64) (yop : Int32) (yiw : Int32) (wMa : Nat → Int64) (v1 : Int32) (v2 : Int32) : Option (Int32 × (Nat → Int64) × Int32 × Int32 × (Nat → Int64)) :=
  (f_X5_isShelf v1).bind fun z1 =>
  if z1 = 0 then
  some ((-1), wSh, yop, yiw, wMa)
  else
  (f_X5_begins_ yop yiw).bind fun z3 =>
  (f_X5_becomesWhole ye wMa 0 v2.toInt64).bind fun z4 =>
  (f_X5_lays ye wSh z3.2 z4 v1).bind fun z5 =>
  some (z5.1, z5.2, z3.1, z3.2, z4)
set_option maxHeartbeats 4000000 in
set_option maxRecDepth 100000 in
theorem k_X5_whole {l : Launch} {G : GG} {q : Nat → Nat} {fr : va_W}  {yp : Int32} {ye : Int32} {yg : Int32} {bPo : Nat → Int32} {bTb : Nat → Int32} {wSh : Nat → Int64} {wTe : Nat → Int64} {wNx : Nat → Int64} {bOs : Nat → Int32} {bOn : Nat → Int32} {yop : Int32} {bSo : Nat → Int32} {bNu : Nat → Int32} {ytr : Int32} {yiw : Int32} {wMa : Nat → Int64} {wPr : Nat → Int64} {bTp : Nat → Int32} {yln : Int32} {ypl : Int32} {yfa : Int32} {wLi : Nat → Int64} {bSi : Nat → Int32} {yhp : Int32} {yhe : Int32} {yhg : Int32} {wHs : Nat → Int64} {yhi : Int32} {v1 : Int32} {v2 : Int32} {z : Int32 × (Nat → Int64) × Int32 × Int32 × (Nat → Int64)}  (h : f_X5_whole ye wSh yop yiw wMa v1 v2 = some z) : Ct l G yX5_whole cX5_whole 3 (some .int) 2 101 [.ref (q 0), .int v1, .int v2] (mW G q yp ye yg bPo bTb wSh wTe wNx bOs bOn yop bSo bNu ytr yiw wMa wPr bTp yln ypl yfa wLi bSi yhp yhe yhg wHs yhi ++ fr) (some (.int z.1)) (mW G q yp ye yg bPo bTb z.2.1 wTe wNx bOs bOn z.2.2.1 bSo bNu ytr z.2.2.2.1 z.2.2.2.2 wPr bTp yln ypl yfa wLi bSi yhp yhe yhg wHs yhi ++ fr) := by
  refine Ct.of (by decide +kernel) (Nat.le_of_ble_eq_true rfl) trivial ?_
  intro p e s m args below meth c Q A ls F hw hA hE hl
  have hx := F.x
  have hb := F.b
  unfold f_X5_whole at h
  obtain ⟨H, hH⟩ : ∃ H, H = s.heap := ⟨_, rfl⟩
  obtain ⟨locs, hlo⟩ : ∃ locs : List Loc, locs = [] := ⟨_, rfl⟩
  rw [← hH, ← hlo] at hw ⊢
  have hl : lv_has ls 3 [(0, .ref (q 0)), (1, .int v1), (2, .int v2)] := hl
  refine lv_iload_n hx hb dX5_whole_0 rfl (lv_at hl 1 rfl) ?_
  obtain ⟨z1, hz1, h⟩ := stB h
  refine ctS (av := [.int v1]) (st0 := ([] : List Value)) (st1 := ([.int z1] : List Value)) F hw hA (k_X5_isShelf hz1) kl_5_174 kd_X5_isShelf rfl ⟨by decide, by decide⟩ hl.1 rfl (Nat.le_of_ble_eq_true rfl) dX5_whole_1 rfl (fun H locs hw => ?_)
  refine lv_if_ne (tgt := 9) hx hb dX5_whole_4 (by decide) (fun c2 => ?_) (fun c2 => ?_)
  · replace h := stF c2 h
    refine lv_aload_n hx hb dX5_whole_9 rfl (lv_at hl 0 rfl) ?_
    obtain ⟨z3, hz3, h⟩ := stB h
    refine ctV (av := []) (st0 := ([] : List Value)) (st1 := ([] : List Value)) F hw hA (k_X5_begins_ hz3) kl_5_177 kd_X5_begins_ rfl ⟨by decide, by decide⟩ 0 rfl rfl hl.1 rfl (Nat.le_of_ble_eq_true rfl) dX5_whole_10 rfl (fun H locs hw => ?_)
    refine lv_aload_n hx hb dX5_whole_13 rfl (lv_at hl 0 rfl) ?_
    refine lv_iconst (v := 0) hx hb dX5_whole_14 (by decide) ?_
    refine lv_iload_n hx hb dX5_whole_15 rfl (lv_at hl 2 rfl) ?_
    refine lv_i2l (v := v2.toInt64) hx hb dX5_whole_16 rfl ?_
    obtain ⟨z4, hz4, h⟩ := stB h
    refine ctV (av := [.int 0, .long v2.toInt64]) (st0 := ([] : List Value)) (st1 := ([] : List Value)) F hw hA (k_X5_becomesWhole hz4) kl_5_179 kd_X5_becomesWhole rfl ⟨by decide, by decide⟩ 0 rfl rfl hl.1 rfl (Nat.le_of_ble_eq_true rfl) dX5_whole_17 rfl (fun H locs hw => ?_)
    refine lv_aload_n hx hb dX5_whole_20 rfl (lv_at hl 0 rfl) ?_
    refine lv_iload_n hx hb dX5_whole_21 rfl (lv_at hl 1 rfl) ?_
    obtain ⟨z5, hz5, h⟩ := stB h
    refine ctV (av := [.int v1]) (st0 := ([] : List Value)) (st1 := ([.int z5.1] : List Value)) F hw hA (k_X5_lays hz5) kl_5_183 kd_X5_lays rfl ⟨by decide, by decide⟩ 0 rfl rfl hl.1 rfl (Nat.le_of_ble_eq_true rfl) dX5_whole_22 rfl (fun H locs hw => ?_)
    obtain rfl := Option.some.inj h
    exact hE H locs _ ls hw dX5_whole_25
  · replace h := stT c2 h
    refine lv_iconst (v := -1) hx hb dX5_whole_7 (by decide) ?_
    obtain rfl := Option.some.inj h
    exact hE H locs _ ls hw dX5_whole_8
end
theorem dX5_period_0 : decode cX5_period 0 = .ok (.iload_n 1, 1) := by decide +kernel
theorem dX5_period_1 : decode cX5_period 1 = .ok (.invokestatic 174, 3) := by decide +kernel
theorem dX5_period_4 : decode cX5_period 4 = .ok (.ifCond .eq 11, 3) := by decide +kernel
theorem dX5_period_7 : decode cX5_period 7 = .ok (.aload_n 0, 1) := by decide +kernel
theorem dX5_period_8 : decode cX5_period 8 = .ok (.iload_n 2, 1) := by decide +kernel
theorem dX5_period_9 : decode cX5_period 9 = .ok (.invokevirtual 114, 3) := by decide +kernel
theorem dX5_period_12 : decode cX5_period 12 = .ok (.ifCond .ne 5, 3) := by decide +kernel
theorem dX5_period_15 : decode cX5_period 15 = .ok (.iconst (-1), 1) := by decide +kernel
theorem dX5_period_16 : decode cX5_period 16 = .ok (.ireturn, 1) := by decide +kernel
theorem dX5_period_17 : decode cX5_period 17 = .ok (.iconst 0, 1) := by decide +kernel
theorem dX5_period_18 : decode cX5_period 18 = .ok (.istore_n 3, 1) := by decide +kernel
theorem dX5_period_19 : decode cX5_period 19 = .ok (.iload_n 3, 1) := by decide +kernel
theorem dX5_period_20 : decode cX5_period 20 = .ok (.aload_n 0, 1) := by decide +kernel
theorem dX5_period_21 : decode cX5_period 21 = .ok (.getfield 66, 3) := by decide +kernel
theorem dX5_period_24 : decode cX5_period 24 = .ok (.if_icmp .ge 34, 3) := by decide +kernel
theorem dX5_period_27 : decode cX5_period 27 = .ok (.aload_n 0, 1) := by decide +kernel
theorem dX5_period_28 : decode cX5_period 28 = .ok (.getfield 18, 3) := by decide +kernel
theorem dX5_period_31 : decode cX5_period 31 = .ok (.bipush 12, 2) := by decide +kernel
theorem dX5_period_33 : decode cX5_period 33 = .ok (.iload_n 1, 1) := by decide +kernel
theorem dX5_period_34 : decode cX5_period 34 = .ok (.imul, 1) := by decide +kernel
theorem dX5_period_35 : decode cX5_period 35 = .ok (.iload_n 3, 1) := by decide +kernel
theorem dX5_period_36 : decode cX5_period 36 = .ok (.iadd, 1) := by decide +kernel
theorem dX5_period_37 : decode cX5_period 37 = .ok (.iload_n 3, 1) := by decide +kernel
theorem dX5_period_38 : decode cX5_period 38 = .ok (.iload_n 2, 1) := by decide +kernel
theorem dX5_period_39 : decode cX5_period 39 = .ok (.if_icmp .ne 7, 3) := by decide +kernel
theorem dX5_period_42 : decode cX5_period 42 = .ok (.iconst 1, 1) := by decide +kernel
theorem dX5_period_43 : decode cX5_period 43 = .ok (.goto 4, 3) := by decide +kernel
theorem dX5_period_46 : decode cX5_period 46 = .ok (.iconst 0, 1) := by decide +kernel
theorem dX5_period_47 : decode cX5_period 47 = .ok (.invokestatic 103, 3) := by decide +kernel
theorem dX5_period_50 : decode cX5_period 50 = .ok (.i2l, 1) := by decide +kernel
theorem dX5_period_51 : decode cX5_period 51 = .ok (.lastore, 1) := by decide +kernel
theorem dX5_period_52 : decode cX5_period 52 = .ok (.iinc 3 1, 3) := by decide +kernel
theorem dX5_period_55 : decode cX5_period 55 = .ok (.goto (-36), 3) := by decide +kernel
theorem dX5_period_58 : decode cX5_period 58 = .ok (.iconst 1, 1) := by decide +kernel
theorem dX5_period_59 : decode cX5_period 59 = .ok (.ireturn, 1) := by decide +kernel
section
variable {p : Program} {l : Launch} {e : Env} {s : State} {m : MethodId} {args : Array Value} {below : List Frame} {meth : Method} {c : Code} {Q : State → Prop} {G : GG} {A : Nat → Prop} {q : Nat → Nat} {fr : va_W}
def f_X5_period_L19 (ye : Int32) (v1 : Int32) (v2 : Int32) : Nat → (Nat → Int64) → Int32 → Option (Int32 × (Nat → Int64))
  | 0, _, _ => none
  | fu + 1, wSh, v3 =>
    if ye ≤ v3 then
    some (1, wSh)
    else
    if v3 = v2 then
    (f_X5_bit 1).bind fun z5 =>
    if inb ((12 * v1) + v3) 48 then
    f_X5_period_L19 ye v1 v2 fu (vp_updL wSh ((12 * v1) + v3).toNatClampNeg z5.toInt64) (v3 + 1)
    else none
    else
    (f_X5_bit 0).bind fun z3 =>
    if inb ((12 * v1) + v3) 48 then
    f_X5_period_L19 ye v1 v2 fu (vp_updL wSh ((12 * v1) + v3).toNatClampNeg z3.toInt64) (v3 + 1)
    else none
set_option maxHeartbeats 4000000 in
set_option maxRecDepth 100000 in
theorem w_X5_period_L19  {yp : Int32} {ye : Int32} {yg : Int32} {bPo : Nat → Int32} {bTb : Nat → Int32} {wTe : Nat → Int64} {wNx : Nat → Int64} {bOs : Nat → Int32} {bOn : Nat → Int32} {yop : Int32} {bSo : Nat → Int32} {bNu : Nat → Int32} {ytr : Int32} {yiw : Int32} {wMa : Nat → Int64} {wPr : Nat → Int64} {bTp : Nat → Int32} {yln : Int32} {ypl : Int32} {yfa : Int32} {wLi : Nat → Int64} {bSi : Nat → Int32} {yhp : Int32} {yhe : Int32} {yhg : Int32} {wHs : Nat → Int64} {yhi : Int32} {v1 : Int32} {v2 : Int32}  (F : Fx p s m args meth c cX5_period 4 RX5 (some .int)) (hA : ∀ q, s.heap.size ≤ q → A q)   : ∀ (fu : Nat) (wSh : Nat → Int64) (v3 : Int32) (z : Int32 × (Nat → Int64)), f_X5_period_L19 ye v1 v2 fu wSh v3 = some z → Ends p l e (rmOf 2 46) s m args below meth c Q cX5_period G A (some .int) (some (.int z.1)) (mW G q yp ye yg bPo bTb z.2 wTe wNx bOs bOn yop bSo bNu ytr yiw wMa wPr bTp yln ypl yfa wLi bSi yhp yhe yhg wHs yhi ++ fr) → ∀ (H : Heap) (locs : List Loc) (ls : Array Slot), Wd G s A (mW G q yp ye yg bPo bTb wSh wTe wNx bOs bOn yop bSo bNu ytr yiw wMa wPr bTp yln ypl yfa wLi bSi yhp yhe yhg wHs yhi ++ fr) H locs → lv_has ls 4 [(0, .ref (q 0)), (1, .int v1), (2, .int v2), (3, .int v3)] → W p l e (rmOf 2 46) s m args below meth c H locs 0 0 Q (F0 m 19 ls []) := by
  have hx := F.x
  have hb := F.b
  intro fu
  induction fu with
  | zero =>
    intro wSh v3 z h
    cases (h : none = some z)
  | succ fu ih =>
    intro wSh v3 z h hE H locs ls hw hl
    rw [f_X5_period_L19] at h
    refine lv_iload_n hx hb dX5_period_19 rfl (lv_at hl 3 rfl) ?_
    refine lv_aload_n hx hb dX5_period_20 rfl (lv_at hl 0 rfl) ?_
    refine gf_5_66 F hw dX5_period_21 ?_
    refine lv_icmp_ge (tgt := 58) hx hb dX5_period_24 (by decide) (fun c1 => ?_) (fun c1 => ?_)
    · replace h := stT c1 h
      refine lv_iconst (v := 1) hx hb dX5_period_58 (by decide) ?_
      obtain rfl := Option.some.inj h
      exact hE H locs _ ls hw dX5_period_59
    · replace h := stF c1 h
      refine lv_aload_n hx hb dX5_period_27 rfl (lv_at hl 0 rfl) ?_
      refine gf_5_18 F hw dX5_period_28 ?_
      refine lv_bipush (v := 12) hx hb dX5_period_31 (by decide) ?_
      refine lv_iload_n hx hb dX5_period_33 rfl (lv_at hl 1 rfl) ?_
      refine lv_imul hx hb dX5_period_34 ?_
      refine lv_iload_n hx hb dX5_period_35 rfl (lv_at hl 3 rfl) ?_
      refine lv_iadd hx hb dX5_period_36 ?_
      refine lv_iload_n hx hb dX5_period_37 rfl (lv_at hl 3 rfl) ?_
      refine lv_iload_n hx hb dX5_period_38 rfl (lv_at hl 2 rfl) ?_
      refine lv_icmp_ne (tgt := 46) hx hb dX5_period_39 (by decide) (fun c2 => ?_) (fun c2 => ?_)
      · replace h := stF c2 h
        refine lv_iconst (v := 0) hx hb dX5_period_46 (by decide) ?_
        obtain ⟨z3, hz3, h⟩ := stB h
        refine ctS (av := [.int 0]) (st0 := ([.int ((12 * v1) + v3), .ref (q 3)] : List Value)) (st1 := ([.int z3, .int ((12 * v1) + v3), .ref (q 3)] : List Value)) F hw hA (k_X5_bit hz3) kl_5_103 kd_X5_bit rfl ⟨by decide, by decide⟩ hl.1 rfl (Nat.le_of_ble_eq_true rfl) dX5_period_47 rfl (fun H locs hw => ?_)
        refine lv_i2l (v := z3.toInt64) hx hb dX5_period_50 rfl ?_
        obtain ⟨g4, h⟩ := stG h
        refine as_m3 F hw g4 dX5_period_51 (fun H locs hw => ?_)
        refine lv_iinc (v := (v3 + 1)) (lv' := [(3, .int (v3 + 1)), (0, .ref (q 0)), (1, .int v1), (2, .int v2)]) hx hb dX5_period_52 hl (k := 3) rfl rfl (by decide) rfl (fun ls hl => ?_)
        refine lv_goto (tgt := 19) hx hb dX5_period_55 (by decide) ?_
        exact ih _ _ z h hE H locs ls hw (lv_sub hl [1, 2, 3, 0] rfl)
      · replace h := stT c2 h
        refine lv_iconst (v := 1) hx hb dX5_period_42 (by decide) ?_
        refine lv_goto (tgt := 47) hx hb dX5_period_43 (by decide) ?_
        obtain ⟨z5, hz5, h⟩ := stB h
        refine ctS (av := [.int 1]) (st0 := ([.int ((12 * v1) + v3), .ref (q 3)] : List Value)) (st1 := ([.int z5, .int ((12 * v1) + v3), .ref (q 3)] : List Value)) F hw hA (k_X5_bit hz5) kl_5_103 kd_X5_bit rfl ⟨by decide, by decide⟩ hl.1 rfl (Nat.le_of_ble_eq_true rfl) dX5_period_47 rfl (fun H locs hw => ?_)
        refine lv_i2l (v := z5.toInt64) hx hb dX5_period_50 rfl ?_
        obtain ⟨g6, h⟩ := stG h
        refine as_m3 F hw g6 dX5_period_51 (fun H locs hw => ?_)
        refine lv_iinc (v := (v3 + 1)) (lv' := [(3, .int (v3 + 1)), (0, .ref (q 0)), (1, .int v1), (2, .int v2)]) hx hb dX5_period_52 hl (k := 3) rfl rfl (by decide) rfl (fun ls hl => ?_)
        refine lv_goto (tgt := 19) hx hb dX5_period_55 (by decide) ?_
        exact ih _ _ z h hE H locs ls hw (lv_sub hl [1, 2, 3, 0] rfl)
def f_X5_period (ye : Int32) (wSh : Nat → Int64) (v1 : Int32) (v2 : Int32) : Option (Int32 × (Nat → Int64)) :=
  (f_X5_isShelf v1).bind fun z1 =>
  if z1 = 0 then
  some ((-1), wSh)
  else
  (f_X5_isClass ye v2).bind fun z3 =>
  if z3 = 0 then
  some ((-1), wSh)
  else
  f_X5_period_L19 ye v1 v2 FU wSh 0
set_option maxHeartbeats 4000000 in
set_option maxRecDepth 100000 in
theorem k_X5_period {l : Launch} {G : GG} {q : Nat → Nat} {fr : va_W}  {yp : Int32} {ye : Int32} {yg : Int32} {bPo : Nat → Int32} {bTb : Nat → Int32} {wSh : Nat → Int64} {wTe : Nat → Int64} {wNx : Nat → Int64} {bOs : Nat → Int32} {bOn : Nat → Int32} {yop : Int32} {bSo : Nat → Int32} {bNu : Nat → Int32} {ytr : Int32} {yiw : Int32} {wMa : Nat → Int64} {wPr : Nat → Int64} {bTp : Nat → Int32} {yln : Int32} {ypl : Int32} {yfa : Int32} {wLi : Nat → Int64} {bSi : Nat → Int32} {yhp : Int32} {yhe : Int32} {yhg : Int32} {wHs : Nat → Int64} {yhi : Int32} {v1 : Int32} {v2 : Int32} {z : Int32 × (Nat → Int64)}  (h : f_X5_period ye wSh v1 v2 = some z) : Ct l G yX5_period cX5_period 4 (some .int) 2 46 [.ref (q 0), .int v1, .int v2] (mW G q yp ye yg bPo bTb wSh wTe wNx bOs bOn yop bSo bNu ytr yiw wMa wPr bTp yln ypl yfa wLi bSi yhp yhe yhg wHs yhi ++ fr) (some (.int z.1)) (mW G q yp ye yg bPo bTb z.2 wTe wNx bOs bOn yop bSo bNu ytr yiw wMa wPr bTp yln ypl yfa wLi bSi yhp yhe yhg wHs yhi ++ fr) := by
  refine Ct.of (by decide +kernel) (Nat.le_of_ble_eq_true rfl) trivial ?_
  intro p e s m args below meth c Q A ls F hw hA hE hl
  have hx := F.x
  have hb := F.b
  unfold f_X5_period at h
  obtain ⟨H, hH⟩ : ∃ H, H = s.heap := ⟨_, rfl⟩
  obtain ⟨locs, hlo⟩ : ∃ locs : List Loc, locs = [] := ⟨_, rfl⟩
  rw [← hH, ← hlo] at hw ⊢
  have hl : lv_has ls 4 [(0, .ref (q 0)), (1, .int v1), (2, .int v2)] := hl
  refine lv_iload_n hx hb dX5_period_0 rfl (lv_at hl 1 rfl) ?_
  obtain ⟨z1, hz1, h⟩ := stB h
  refine ctS (av := [.int v1]) (st0 := ([] : List Value)) (st1 := ([.int z1] : List Value)) F hw hA (k_X5_isShelf hz1) kl_5_174 kd_X5_isShelf rfl ⟨by decide, by decide⟩ hl.1 rfl (Nat.le_of_ble_eq_true rfl) dX5_period_1 rfl (fun H locs hw => ?_)
  refine lv_if_eq (tgt := 15) hx hb dX5_period_4 (by decide) (fun c2 => ?_) (fun c2 => ?_)
  · replace h := stT c2 h
    refine lv_iconst (v := -1) hx hb dX5_period_15 (by decide) ?_
    obtain rfl := Option.some.inj h
    exact hE H locs _ ls hw dX5_period_16
  · replace h := stF c2 h
    refine lv_aload_n hx hb dX5_period_7 rfl (lv_at hl 0 rfl) ?_
    refine lv_iload_n hx hb dX5_period_8 rfl (lv_at hl 2 rfl) ?_
    obtain ⟨z3, hz3, h⟩ := stB h
    refine ctV (av := [.int v2]) (st0 := ([] : List Value)) (st1 := ([.int z3] : List Value)) F hw hA (k_X5_isClass hz3) kl_5_114 kd_X5_isClass rfl ⟨by decide, by decide⟩ 0 rfl rfl hl.1 rfl (Nat.le_of_ble_eq_true rfl) dX5_period_9 rfl (fun H locs hw => ?_)
    refine lv_if_ne (tgt := 17) hx hb dX5_period_12 (by decide) (fun c4 => ?_) (fun c4 => ?_)
    · replace h := stF c4 h
      refine lv_iconst (v := 0) hx hb dX5_period_17 (by decide) ?_
      refine lv_istore_n (lv' := [(3, .int 0), (0, .ref (q 0)), (1, .int v1), (2, .int v2)]) hx hb dX5_period_18 rfl hl (by decide) rfl (fun ls hl => ?_)
      exact w_X5_period_L19 F hA  FU _ _ z h hE H locs ls hw (lv_sub hl [1, 2, 3, 0] rfl)
    · replace h := stT c4 h
      refine lv_iconst (v := -1) hx hb dX5_period_15 (by decide) ?_
      obtain rfl := Option.some.inj h
      exact hE H locs _ ls hw dX5_period_16
end
theorem dX5_areShelves_0 : decode cX5_areShelves 0 = .ok (.iload_n 1, 1) := by decide +kernel
theorem dX5_areShelves_1 : decode cX5_areShelves 1 = .ok (.invokestatic 174, 3) := by decide +kernel
theorem dX5_areShelves_4 : decode cX5_areShelves 4 = .ok (.ifCond .eq 21, 3) := by decide +kernel
theorem dX5_areShelves_7 : decode cX5_areShelves 7 = .ok (.iload_n 2, 1) := by decide +kernel
theorem dX5_areShelves_8 : decode cX5_areShelves 8 = .ok (.invokestatic 174, 3) := by decide +kernel
theorem dX5_areShelves_11 : decode cX5_areShelves 11 = .ok (.ifCond .eq 14, 3) := by decide +kernel
theorem dX5_areShelves_14 : decode cX5_areShelves 14 = .ok (.iload_n 3, 1) := by decide +kernel
theorem dX5_areShelves_15 : decode cX5_areShelves 15 = .ok (.invokestatic 174, 3) := by decide +kernel
theorem dX5_areShelves_18 : decode cX5_areShelves 18 = .ok (.ifCond .eq 7, 3) := by decide +kernel
theorem dX5_areShelves_21 : decode cX5_areShelves 21 = .ok (.iconst 1, 1) := by decide +kernel
theorem dX5_areShelves_22 : decode cX5_areShelves 22 = .ok (.goto 4, 3) := by decide +kernel
theorem dX5_areShelves_25 : decode cX5_areShelves 25 = .ok (.iconst 0, 1) := by decide +kernel
theorem dX5_areShelves_26 : decode cX5_areShelves 26 = .ok (.ireturn, 1) := by decide +kernel
section
variable {p : Program} {l : Launch} {e : Env} {s : State} {m : MethodId} {args : Array Value} {below : List Frame} {meth : Method} {c : Code} {Q : State → Prop} {G : GG} {A : Nat → Prop} {q : Nat → Nat} {fr : va_W}
def f_X5_areShelves (v1 : Int32) (v2 : Int32) (v3 : Int32) : Option (Int32) :=
  (f_X5_isShelf v1).bind fun z1 =>
  if z1 = 0 then
  some 0
  else
  (f_X5_isShelf v2).bind fun z3 =>
  if z3 = 0 then
  some 0
  else
  (f_X5_isShelf v3).bind fun z5 =>
  if z5 = 0 then
  some 0
  else
  some 1
set_option maxHeartbeats 4000000 in
set_option maxRecDepth 100000 in
theorem k_X5_areShelves {l : Launch} {G : GG} {q : Nat → Nat} {fr : va_W}  {yp : Int32} {ye : Int32} {yg : Int32} {bPo : Nat → Int32} {bTb : Nat → Int32} {wSh : Nat → Int64} {wTe : Nat → Int64} {wNx : Nat → Int64} {bOs : Nat → Int32} {bOn : Nat → Int32} {yop : Int32} {bSo : Nat → Int32} {bNu : Nat → Int32} {ytr : Int32} {yiw : Int32} {wMa : Nat → Int64} {wPr : Nat → Int64} {bTp : Nat → Int32} {yln : Int32} {ypl : Int32} {yfa : Int32} {wLi : Nat → Int64} {bSi : Nat → Int32} {yhp : Int32} {yhe : Int32} {yhg : Int32} {wHs : Nat → Int64} {yhi : Int32} {v1 : Int32} {v2 : Int32} {v3 : Int32} {z : Int32}  (h : f_X5_areShelves v1 v2 v3 = some z) : Ct l G yX5_areShelves cX5_areShelves 4 (some .boolean) 2 45 [.ref (q 0), .int v1, .int v2, .int v3] (mW G q yp ye yg bPo bTb wSh wTe wNx bOs bOn yop bSo bNu ytr yiw wMa wPr bTp yln ypl yfa wLi bSi yhp yhe yhg wHs yhi ++ fr) (some (.int z)) (mW G q yp ye yg bPo bTb wSh wTe wNx bOs bOn yop bSo bNu ytr yiw wMa wPr bTp yln ypl yfa wLi bSi yhp yhe yhg wHs yhi ++ fr) := by
  refine Ct.of (by decide +kernel) (Nat.le_of_ble_eq_true rfl) trivial ?_
  intro p e s m args below meth c Q A ls F hw hA hE hl
  have hx := F.x
  have hb := F.b
  unfold f_X5_areShelves at h
  obtain ⟨H, hH⟩ : ∃ H, H = s.heap := ⟨_, rfl⟩
  obtain ⟨locs, hlo⟩ : ∃ locs : List Loc, locs = [] := ⟨_, rfl⟩
  rw [← hH, ← hlo] at hw ⊢
  have hl : lv_has ls 4 [(0, .ref (q 0)), (1, .int v1), (2, .int v2), (3, .int v3)] := hl
  refine lv_iload_n hx hb dX5_areShelves_0 rfl (lv_at hl 1 rfl) ?_
  obtain ⟨z1, hz1, h⟩ := stB h
  refine ctS (av := [.int v1]) (st0 := ([] : List Value)) (st1 := ([.int z1] : List Value)) F hw hA (k_X5_isShelf hz1) kl_5_174 kd_X5_isShelf rfl ⟨by decide, by decide⟩ hl.1 rfl (Nat.le_of_ble_eq_true rfl) dX5_areShelves_1 rfl (fun H locs hw => ?_)
  refine lv_if_eq (tgt := 25) hx hb dX5_areShelves_4 (by decide) (fun c2 => ?_) (fun c2 => ?_)
  · replace h := stT c2 h
    refine lv_iconst (v := 0) hx hb dX5_areShelves_25 (by decide) ?_
    obtain rfl := Option.some.inj h
    exact hE H locs _ ls hw (Or.inl rfl) dX5_areShelves_26
  · replace h := stF c2 h
    refine lv_iload_n hx hb dX5_areShelves_7 rfl (lv_at hl 2 rfl) ?_
    obtain ⟨z3, hz3, h⟩ := stB h
    refine ctS (av := [.int v2]) (st0 := ([] : List Value)) (st1 := ([.int z3] : List Value)) F hw hA (k_X5_isShelf hz3) kl_5_174 kd_X5_isShelf rfl ⟨by decide, by decide⟩ hl.1 rfl (Nat.le_of_ble_eq_true rfl) dX5_areShelves_8 rfl (fun H locs hw => ?_)
    refine lv_if_eq (tgt := 25) hx hb dX5_areShelves_11 (by decide) (fun c4 => ?_) (fun c4 => ?_)
    · replace h := stT c4 h
      refine lv_iconst (v := 0) hx hb dX5_areShelves_25 (by decide) ?_
      obtain rfl := Option.some.inj h
      exact hE H locs _ ls hw (Or.inl rfl) dX5_areShelves_26
    · replace h := stF c4 h
      refine lv_iload_n hx hb dX5_areShelves_14 rfl (lv_at hl 3 rfl) ?_
      obtain ⟨z5, hz5, h⟩ := stB h
      refine ctS (av := [.int v3]) (st0 := ([] : List Value)) (st1 := ([.int z5] : List Value)) F hw hA (k_X5_isShelf hz5) kl_5_174 kd_X5_isShelf rfl ⟨by decide, by decide⟩ hl.1 rfl (Nat.le_of_ble_eq_true rfl) dX5_areShelves_15 rfl (fun H locs hw => ?_)
      refine lv_if_eq (tgt := 25) hx hb dX5_areShelves_18 (by decide) (fun c6 => ?_) (fun c6 => ?_)
      · replace h := stT c6 h
        refine lv_iconst (v := 0) hx hb dX5_areShelves_25 (by decide) ?_
        obtain rfl := Option.some.inj h
        exact hE H locs _ ls hw (Or.inl rfl) dX5_areShelves_26
      · replace h := stF c6 h
        refine lv_iconst (v := 1) hx hb dX5_areShelves_21 (by decide) ?_
        refine lv_goto (tgt := 26) hx hb dX5_areShelves_22 (by decide) ?_
        obtain rfl := Option.some.inj h
        exact hE H locs _ ls hw (Or.inr rfl) dX5_areShelves_26
end
theorem dX5_takesBoth_0 : decode cX5_takesBoth 0 = .ok (.aload_n 0, 1) := by decide +kernel
theorem dX5_takesBoth_1 : decode cX5_takesBoth 1 = .ok (.invokevirtual 177, 3) := by decide +kernel
theorem dX5_takesBoth_4 : decode cX5_takesBoth 4 = .ok (.aload_n 0, 1) := by decide +kernel
theorem dX5_takesBoth_5 : decode cX5_takesBoth 5 = .ok (.iconst 0, 1) := by decide +kernel
theorem dX5_takesBoth_6 : decode cX5_takesBoth 6 = .ok (.iload_n 1, 1) := by decide +kernel
theorem dX5_takesBoth_7 : decode cX5_takesBoth 7 = .ok (.invokevirtual 186, 3) := by decide +kernel
theorem dX5_takesBoth_10 : decode cX5_takesBoth 10 = .ok (.aload_n 0, 1) := by decide +kernel
theorem dX5_takesBoth_11 : decode cX5_takesBoth 11 = .ok (.iconst 1, 1) := by decide +kernel
theorem dX5_takesBoth_12 : decode cX5_takesBoth 12 = .ok (.iload_n 2, 1) := by decide +kernel
theorem dX5_takesBoth_13 : decode cX5_takesBoth 13 = .ok (.invokevirtual 186, 3) := by decide +kernel
theorem dX5_takesBoth_16 : decode cX5_takesBoth 16 = .ok (.return_, 1) := by decide +kernel
section
variable {p : Program} {l : Launch} {e : Env} {s : State} {m : MethodId} {args : Array Value} {below : List Frame} {meth : Method} {c : Code} {Q : State → Prop} {G : GG} {A : Nat → Prop} {q : Nat → Nat} {fr : va_W}
def f_X5_takesBoth (ye : Int32) (wSh : Nat → Int64) (yop : Int32) (yiw : Int32) (wMa : Nat → Int64) (v1 : Int32) (v2 : Int32) : Option (Int32 × Int32 × (Nat → Int64)) :=
  (f_X5_begins_ yop yiw).bind fun z1 =>
  (f_X5_takes ye wSh wMa 0 v1).bind fun z2 =>
  (f_X5_takes ye wSh z2 1 v2).bind fun z3 =>
  some (z1.1, z1.2, z3)
set_option maxHeartbeats 4000000 in
set_option maxRecDepth 100000 in
theorem k_X5_takesBoth {l : Launch} {G : GG} {q : Nat → Nat} {fr : va_W}  {yp : Int32} {ye : Int32} {yg : Int32} {bPo : Nat → Int32} {bTb : Nat → Int32} {wSh : Nat → Int64} {wTe : Nat → Int64} {wNx : Nat → Int64} {bOs : Nat → Int32} {bOn : Nat → Int32} {yop : Int32} {bSo : Nat → Int32} {bNu : Nat → Int32} {ytr : Int32} {yiw : Int32} {wMa : Nat → Int64} {wPr : Nat → Int64} {bTp : Nat → Int32} {yln : Int32} {ypl : Int32} {yfa : Int32} {wLi : Nat → Int64} {bSi : Nat → Int32} {yhp : Int32} {yhe : Int32} {yhg : Int32} {wHs : Nat → Int64} {yhi : Int32} {v1 : Int32} {v2 : Int32} {z : Int32 × Int32 × (Nat → Int64)}  (h : f_X5_takesBoth ye wSh yop yiw wMa v1 v2 = some z) : Ct l G yX5_takesBoth cX5_takesBoth 3 none 2 102 [.ref (q 0), .int v1, .int v2] (mW G q yp ye yg bPo bTb wSh wTe wNx bOs bOn yop bSo bNu ytr yiw wMa wPr bTp yln ypl yfa wLi bSi yhp yhe yhg wHs yhi ++ fr) (none) (mW G q yp ye yg bPo bTb wSh wTe wNx bOs bOn z.1 bSo bNu ytr z.2.1 z.2.2 wPr bTp yln ypl yfa wLi bSi yhp yhe yhg wHs yhi ++ fr) := by
  refine Ct.of (by decide +kernel) (Nat.le_of_ble_eq_true rfl) trivial ?_
  intro p e s m args below meth c Q A ls F hw hA hE hl
  have hx := F.x
  have hb := F.b
  unfold f_X5_takesBoth at h
  obtain ⟨H, hH⟩ : ∃ H, H = s.heap := ⟨_, rfl⟩
  obtain ⟨locs, hlo⟩ : ∃ locs : List Loc, locs = [] := ⟨_, rfl⟩
  rw [← hH, ← hlo] at hw ⊢
  have hl : lv_has ls 3 [(0, .ref (q 0)), (1, .int v1), (2, .int v2)] := hl
  refine lv_aload_n hx hb dX5_takesBoth_0 rfl (lv_at hl 0 rfl) ?_
  obtain ⟨z1, hz1, h⟩ := stB h
  refine ctV (av := []) (st0 := ([] : List Value)) (st1 := ([] : List Value)) F hw hA (k_X5_begins_ hz1) kl_5_177 kd_X5_begins_ rfl ⟨by decide, by decide⟩ 0 rfl rfl hl.1 rfl (Nat.le_of_ble_eq_true rfl) dX5_takesBoth_1 rfl (fun H locs hw => ?_)
  refine lv_aload_n hx hb dX5_takesBoth_4 rfl (lv_at hl 0 rfl) ?_
  refine lv_iconst (v := 0) hx hb dX5_takesBoth_5 (by decide) ?_
  refine lv_iload_n hx hb dX5_takesBoth_6 rfl (lv_at hl 1 rfl) ?_
  obtain ⟨z2, hz2, h⟩ := stB h
  refine ctV (av := [.int 0, .int v1]) (st0 := ([] : List Value)) (st1 := ([] : List Value)) F hw hA (k_X5_takes hz2) kl_5_186 kd_X5_takes rfl ⟨by decide, by decide⟩ 0 rfl rfl hl.1 rfl (Nat.le_of_ble_eq_true rfl) dX5_takesBoth_7 rfl (fun H locs hw => ?_)
  refine lv_aload_n hx hb dX5_takesBoth_10 rfl (lv_at hl 0 rfl) ?_
  refine lv_iconst (v := 1) hx hb dX5_takesBoth_11 (by decide) ?_
  refine lv_iload_n hx hb dX5_takesBoth_12 rfl (lv_at hl 2 rfl) ?_
  obtain ⟨z3, hz3, h⟩ := stB h
  refine ctV (av := [.int 1, .int v2]) (st0 := ([] : List Value)) (st1 := ([] : List Value)) F hw hA (k_X5_takes hz3) kl_5_186 kd_X5_takes rfl ⟨by decide, by decide⟩ 0 rfl rfl hl.1 rfl (Nat.le_of_ble_eq_true rfl) dX5_takesBoth_13 rfl (fun H locs hw => ?_)
  obtain rfl := Option.some.inj h
  exact hE H locs _ ls hw dX5_takesBoth_16
end
theorem dX5_add_0 : decode cX5_add 0 = .ok (.aload_n 0, 1) := by decide +kernel
theorem dX5_add_1 : decode cX5_add 1 = .ok (.iload_n 1, 1) := by decide +kernel
theorem dX5_add_2 : decode cX5_add 2 = .ok (.iload_n 2, 1) := by decide +kernel
theorem dX5_add_3 : decode cX5_add 3 = .ok (.iload_n 3, 1) := by decide +kernel
theorem dX5_add_4 : decode cX5_add 4 = .ok (.invokevirtual 189, 3) := by decide +kernel
theorem dX5_add_7 : decode cX5_add 7 = .ok (.ifCond .ne 5, 3) := by decide +kernel
theorem dX5_add_10 : decode cX5_add 10 = .ok (.iconst (-1), 1) := by decide +kernel
theorem dX5_add_11 : decode cX5_add 11 = .ok (.ireturn, 1) := by decide +kernel
theorem dX5_add_12 : decode cX5_add 12 = .ok (.aload_n 0, 1) := by decide +kernel
theorem dX5_add_13 : decode cX5_add 13 = .ok (.iload_n 1, 1) := by decide +kernel
theorem dX5_add_14 : decode cX5_add 14 = .ok (.iload_n 2, 1) := by decide +kernel
theorem dX5_add_15 : decode cX5_add 15 = .ok (.invokevirtual 193, 3) := by decide +kernel
theorem dX5_add_18 : decode cX5_add 18 = .ok (.aload_n 0, 1) := by decide +kernel
theorem dX5_add_19 : decode cX5_add 19 = .ok (.iconst 0, 1) := by decide +kernel
theorem dX5_add_20 : decode cX5_add 20 = .ok (.iconst 1, 1) := by decide +kernel
theorem dX5_add_21 : decode cX5_add 21 = .ok (.iconst 0, 1) := by decide +kernel
theorem dX5_add_22 : decode cX5_add 22 = .ok (.invokevirtual 196, 3) := by decide +kernel
theorem dX5_add_25 : decode cX5_add 25 = .ok (.aload_n 0, 1) := by decide +kernel
theorem dX5_add_26 : decode cX5_add 26 = .ok (.iload_n 3, 1) := by decide +kernel
theorem dX5_add_27 : decode cX5_add 27 = .ok (.invokevirtual 183, 3) := by decide +kernel
theorem dX5_add_30 : decode cX5_add 30 = .ok (.ireturn, 1) := by decide +kernel
section
variable {p : Program} {l : Launch} {e : Env} {s : State} {m : MethodId} {args : Array Value} {below : List Frame} {meth : Method} {c : Code} {Q : State → Prop} {G : GG} {A : Nat → Prop} {q : Nat → Nat} {fr : va_W}
def f_X5_add (ye : Int32) (wSh : Nat → Int64) (bOs : Nat → Int32) (bOn : Nat → Int32) (yop : Int32) (bSo : Nat → Int32) (bNu : Nat → Int32) (ytr : Int32) (yiw : Int32) (wMa : Nat → Int64) (v1 : Int32) (v2 : Int32) (v3 : Int32) : Option (Int32 × (Nat → Int64) × Int32 × (Nat → Int32) × (Nat → Int32) × Int32 × Int32 × (Nat → Int64)) :=
  (f_X5_areShelves v1 v2 v3).bind fun z1 =>
  if z1 = 0 then
  some ((-1), wSh, yop, bSo, bNu, ytr, yiw, wMa)
  else
  (f_X5_takesBoth ye wSh yop yiw wMa v1 v2).bind fun z3 =>
  (f_X5_adds ye bOs bOn z3.1 bSo bNu ytr z3.2.1 z3.2.2 0 1 0).bind fun z4 =>
  (f_X5_lays ye wSh z4.2.2.2.1 z4.2.2.2.2 v3).bind fun z5 =>
  some (z5.1, z5.2, z3.1, z4.1, z4.2.1, z4.2.2.1, z4.2.2.2.1, z4.2.2.2.2)
set_option maxHeartbeats 4000000 in
set_option maxRecDepth 100000 in
theorem k_X5_add {l : Launch} {G : GG} {q : Nat → Nat} {fr : va_W}  {yp : Int32} {ye : Int32} {yg : Int32} {bPo : Nat → Int32} {bTb : Nat → Int32} {wSh : Nat → Int64} {wTe : Nat → Int64} {wNx : Nat → Int64} {bOs : Nat → Int32} {bOn : Nat → Int32} {yop : Int32} {bSo : Nat → Int32} {bNu : Nat → Int32} {ytr : Int32} {yiw : Int32} {wMa : Nat → Int64} {wPr : Nat → Int64} {bTp : Nat → Int32} {yln : Int32} {ypl : Int32} {yfa : Int32} {wLi : Nat → Int64} {bSi : Nat → Int32} {yhp : Int32} {yhe : Int32} {yhg : Int32} {wHs : Nat → Int64} {yhi : Int32} {v1 : Int32} {v2 : Int32} {v3 : Int32} {z : Int32 × (Nat → Int64) × Int32 × (Nat → Int32) × (Nat → Int32) × Int32 × Int32 × (Nat → Int64)}  (h : f_X5_add ye wSh bOs bOn yop bSo bNu ytr yiw wMa v1 v2 v3 = some z) : Ct l G yX5_add cX5_add 4 (some .int) 3 130 [.ref (q 0), .int v1, .int v2, .int v3] (mW G q yp ye yg bPo bTb wSh wTe wNx bOs bOn yop bSo bNu ytr yiw wMa wPr bTp yln ypl yfa wLi bSi yhp yhe yhg wHs yhi ++ fr) (some (.int z.1)) (mW G q yp ye yg bPo bTb z.2.1 wTe wNx bOs bOn z.2.2.1 z.2.2.2.1 z.2.2.2.2.1 z.2.2.2.2.2.1 z.2.2.2.2.2.2.1 z.2.2.2.2.2.2.2 wPr bTp yln ypl yfa wLi bSi yhp yhe yhg wHs yhi ++ fr) := by
  refine Ct.of (by decide +kernel) (Nat.le_of_ble_eq_true rfl) trivial ?_
  intro p e s m args below meth c Q A ls F hw hA hE hl
  have hx := F.x
  have hb := F.b
  unfold f_X5_add at h
  obtain ⟨H, hH⟩ : ∃ H, H = s.heap := ⟨_, rfl⟩
  obtain ⟨locs, hlo⟩ : ∃ locs : List Loc, locs = [] := ⟨_, rfl⟩
  rw [← hH, ← hlo] at hw ⊢
  have hl : lv_has ls 4 [(0, .ref (q 0)), (1, .int v1), (2, .int v2), (3, .int v3)] := hl
  refine lv_aload_n hx hb dX5_add_0 rfl (lv_at hl 0 rfl) ?_
  refine lv_iload_n hx hb dX5_add_1 rfl (lv_at hl 1 rfl) ?_
  refine lv_iload_n hx hb dX5_add_2 rfl (lv_at hl 2 rfl) ?_
  refine lv_iload_n hx hb dX5_add_3 rfl (lv_at hl 3 rfl) ?_
  obtain ⟨z1, hz1, h⟩ := stB h
  refine ctV (av := [.int v1, .int v2, .int v3]) (st0 := ([] : List Value)) (st1 := ([.int z1] : List Value)) F hw hA (k_X5_areShelves hz1) kl_5_189 kd_X5_areShelves rfl ⟨by decide, by decide⟩ 0 rfl rfl hl.1 rfl (Nat.le_of_ble_eq_true rfl) dX5_add_4 rfl (fun H locs hw => ?_)
  refine lv_if_ne (tgt := 12) hx hb dX5_add_7 (by decide) (fun c2 => ?_) (fun c2 => ?_)
  · replace h := stF c2 h
    refine lv_aload_n hx hb dX5_add_12 rfl (lv_at hl 0 rfl) ?_
    refine lv_iload_n hx hb dX5_add_13 rfl (lv_at hl 1 rfl) ?_
    refine lv_iload_n hx hb dX5_add_14 rfl (lv_at hl 2 rfl) ?_
    obtain ⟨z3, hz3, h⟩ := stB h
    refine ctV (av := [.int v1, .int v2]) (st0 := ([] : List Value)) (st1 := ([] : List Value)) F hw hA (k_X5_takesBoth hz3) kl_5_193 kd_X5_takesBoth rfl ⟨by decide, by decide⟩ 0 rfl rfl hl.1 rfl (Nat.le_of_ble_eq_true rfl) dX5_add_15 rfl (fun H locs hw => ?_)
    refine lv_aload_n hx hb dX5_add_18 rfl (lv_at hl 0 rfl) ?_
    refine lv_iconst (v := 0) hx hb dX5_add_19 (by decide) ?_
    refine lv_iconst (v := 1) hx hb dX5_add_20 (by decide) ?_
    refine lv_iconst (v := 0) hx hb dX5_add_21 (by decide) ?_
    obtain ⟨z4, hz4, h⟩ := stB h
    refine ctV (av := [.int 0, .int 1, .int 0]) (st0 := ([] : List Value)) (st1 := ([] : List Value)) F hw hA (k_X5_adds hz4) kl_5_196 kd_X5_adds rfl ⟨by decide, by decide⟩ 0 rfl rfl hl.1 rfl (Nat.le_of_ble_eq_true rfl) dX5_add_22 rfl (fun H locs hw => ?_)
    refine lv_aload_n hx hb dX5_add_25 rfl (lv_at hl 0 rfl) ?_
    refine lv_iload_n hx hb dX5_add_26 rfl (lv_at hl 3 rfl) ?_
    obtain ⟨z5, hz5, h⟩ := stB h
    refine ctV (av := [.int v3]) (st0 := ([] : List Value)) (st1 := ([.int z5.1] : List Value)) F hw hA (k_X5_lays hz5) kl_5_183 kd_X5_lays rfl ⟨by decide, by decide⟩ 0 rfl rfl hl.1 rfl (Nat.le_of_ble_eq_true rfl) dX5_add_27 rfl (fun H locs hw => ?_)
    obtain rfl := Option.some.inj h
    exact hE H locs _ ls hw dX5_add_30
  · replace h := stT c2 h
    refine lv_iconst (v := -1) hx hb dX5_add_10 (by decide) ?_
    obtain rfl := Option.some.inj h
    exact hE H locs _ ls hw dX5_add_11
end
theorem dX5_less_0 : decode cX5_less 0 = .ok (.aload_n 0, 1) := by decide +kernel
theorem dX5_less_1 : decode cX5_less 1 = .ok (.iload_n 1, 1) := by decide +kernel
theorem dX5_less_2 : decode cX5_less 2 = .ok (.iload_n 2, 1) := by decide +kernel
theorem dX5_less_3 : decode cX5_less 3 = .ok (.iload_n 3, 1) := by decide +kernel
theorem dX5_less_4 : decode cX5_less 4 = .ok (.invokevirtual 189, 3) := by decide +kernel
theorem dX5_less_7 : decode cX5_less 7 = .ok (.ifCond .ne 5, 3) := by decide +kernel
theorem dX5_less_10 : decode cX5_less 10 = .ok (.iconst (-1), 1) := by decide +kernel
theorem dX5_less_11 : decode cX5_less 11 = .ok (.ireturn, 1) := by decide +kernel
theorem dX5_less_12 : decode cX5_less 12 = .ok (.aload_n 0, 1) := by decide +kernel
theorem dX5_less_13 : decode cX5_less 13 = .ok (.iload_n 1, 1) := by decide +kernel
theorem dX5_less_14 : decode cX5_less 14 = .ok (.iload_n 2, 1) := by decide +kernel
theorem dX5_less_15 : decode cX5_less 15 = .ok (.invokevirtual 193, 3) := by decide +kernel
theorem dX5_less_18 : decode cX5_less 18 = .ok (.aload_n 0, 1) := by decide +kernel
theorem dX5_less_19 : decode cX5_less 19 = .ok (.iconst 0, 1) := by decide +kernel
theorem dX5_less_20 : decode cX5_less 20 = .ok (.iconst 1, 1) := by decide +kernel
theorem dX5_less_21 : decode cX5_less 21 = .ok (.iconst 1, 1) := by decide +kernel
theorem dX5_less_22 : decode cX5_less 22 = .ok (.invokevirtual 196, 3) := by decide +kernel
theorem dX5_less_25 : decode cX5_less 25 = .ok (.aload_n 0, 1) := by decide +kernel
theorem dX5_less_26 : decode cX5_less 26 = .ok (.iload_n 3, 1) := by decide +kernel
theorem dX5_less_27 : decode cX5_less 27 = .ok (.invokevirtual 183, 3) := by decide +kernel
theorem dX5_less_30 : decode cX5_less 30 = .ok (.ireturn, 1) := by decide +kernel
section
variable {p : Program} {l : Launch} {e : Env} {s : State} {m : MethodId} {args : Array Value} {below : List Frame} {meth : Method} {c : Code} {Q : State → Prop} {G : GG} {A : Nat → Prop} {q : Nat → Nat} {fr : va_W}
def f_X5_less (ye : Int32) (wSh : Nat → Int64) (bOs : Nat → Int32) (bOn : Nat → Int32) (yop : Int32) (bSo : Nat → Int32) (bNu : Nat → Int32) (ytr : Int32) (yiw : Int32) (wMa : Nat → Int64) (v1 : Int32) (v2 : Int32) (v3 : Int32) : Option (Int32 × (Nat → Int64) × Int32 × (Nat → Int32) × (Nat → Int32) × Int32 × Int32 × (Nat → Int64)) :=
  (f_X5_areShelves v1 v2 v3).bind fun z1 =>
  if z1 = 0 then
  some ((-1), wSh, yop, bSo, bNu, ytr, yiw, wMa)
  else
  (f_X5_takesBoth ye wSh yop yiw wMa v1 v2).bind fun z3 =>
  (f_X5_adds ye bOs bOn z3.1 bSo bNu ytr z3.2.1 z3.2.2 0 1 1).bind fun z4 =>
  (f_X5_lays ye wSh z4.2.2.2.1 z4.2.2.2.2 v3).bind fun z5 =>
  some (z5.1, z5.2, z3.1, z4.1, z4.2.1, z4.2.2.1, z4.2.2.2.1, z4.2.2.2.2)
set_option maxHeartbeats 4000000 in
set_option maxRecDepth 100000 in
theorem k_X5_less {l : Launch} {G : GG} {q : Nat → Nat} {fr : va_W}  {yp : Int32} {ye : Int32} {yg : Int32} {bPo : Nat → Int32} {bTb : Nat → Int32} {wSh : Nat → Int64} {wTe : Nat → Int64} {wNx : Nat → Int64} {bOs : Nat → Int32} {bOn : Nat → Int32} {yop : Int32} {bSo : Nat → Int32} {bNu : Nat → Int32} {ytr : Int32} {yiw : Int32} {wMa : Nat → Int64} {wPr : Nat → Int64} {bTp : Nat → Int32} {yln : Int32} {ypl : Int32} {yfa : Int32} {wLi : Nat → Int64} {bSi : Nat → Int32} {yhp : Int32} {yhe : Int32} {yhg : Int32} {wHs : Nat → Int64} {yhi : Int32} {v1 : Int32} {v2 : Int32} {v3 : Int32} {z : Int32 × (Nat → Int64) × Int32 × (Nat → Int32) × (Nat → Int32) × Int32 × Int32 × (Nat → Int64)}  (h : f_X5_less ye wSh bOs bOn yop bSo bNu ytr yiw wMa v1 v2 v3 = some z) : Ct l G yX5_less cX5_less 4 (some .int) 3 130 [.ref (q 0), .int v1, .int v2, .int v3] (mW G q yp ye yg bPo bTb wSh wTe wNx bOs bOn yop bSo bNu ytr yiw wMa wPr bTp yln ypl yfa wLi bSi yhp yhe yhg wHs yhi ++ fr) (some (.int z.1)) (mW G q yp ye yg bPo bTb z.2.1 wTe wNx bOs bOn z.2.2.1 z.2.2.2.1 z.2.2.2.2.1 z.2.2.2.2.2.1 z.2.2.2.2.2.2.1 z.2.2.2.2.2.2.2 wPr bTp yln ypl yfa wLi bSi yhp yhe yhg wHs yhi ++ fr) := by
  refine Ct.of (by decide +kernel) (Nat.le_of_ble_eq_true rfl) trivial ?_
  intro p e s m args below meth c Q A ls F hw hA hE hl
  have hx := F.x
  have hb := F.b
  unfold f_X5_less at h
  obtain ⟨H, hH⟩ : ∃ H, H = s.heap := ⟨_, rfl⟩
  obtain ⟨locs, hlo⟩ : ∃ locs : List Loc, locs = [] := ⟨_, rfl⟩
  rw [← hH, ← hlo] at hw ⊢
  have hl : lv_has ls 4 [(0, .ref (q 0)), (1, .int v1), (2, .int v2), (3, .int v3)] := hl
  refine lv_aload_n hx hb dX5_less_0 rfl (lv_at hl 0 rfl) ?_
  refine lv_iload_n hx hb dX5_less_1 rfl (lv_at hl 1 rfl) ?_
  refine lv_iload_n hx hb dX5_less_2 rfl (lv_at hl 2 rfl) ?_
  refine lv_iload_n hx hb dX5_less_3 rfl (lv_at hl 3 rfl) ?_
  obtain ⟨z1, hz1, h⟩ := stB h
  refine ctV (av := [.int v1, .int v2, .int v3]) (st0 := ([] : List Value)) (st1 := ([.int z1] : List Value)) F hw hA (k_X5_areShelves hz1) kl_5_189 kd_X5_areShelves rfl ⟨by decide, by decide⟩ 0 rfl rfl hl.1 rfl (Nat.le_of_ble_eq_true rfl) dX5_less_4 rfl (fun H locs hw => ?_)
  refine lv_if_ne (tgt := 12) hx hb dX5_less_7 (by decide) (fun c2 => ?_) (fun c2 => ?_)
  · replace h := stF c2 h
    refine lv_aload_n hx hb dX5_less_12 rfl (lv_at hl 0 rfl) ?_
    refine lv_iload_n hx hb dX5_less_13 rfl (lv_at hl 1 rfl) ?_
    refine lv_iload_n hx hb dX5_less_14 rfl (lv_at hl 2 rfl) ?_
    obtain ⟨z3, hz3, h⟩ := stB h
    refine ctV (av := [.int v1, .int v2]) (st0 := ([] : List Value)) (st1 := ([] : List Value)) F hw hA (k_X5_takesBoth hz3) kl_5_193 kd_X5_takesBoth rfl ⟨by decide, by decide⟩ 0 rfl rfl hl.1 rfl (Nat.le_of_ble_eq_true rfl) dX5_less_15 rfl (fun H locs hw => ?_)
    refine lv_aload_n hx hb dX5_less_18 rfl (lv_at hl 0 rfl) ?_
    refine lv_iconst (v := 0) hx hb dX5_less_19 (by decide) ?_
    refine lv_iconst (v := 1) hx hb dX5_less_20 (by decide) ?_
    refine lv_iconst (v := 1) hx hb dX5_less_21 (by decide) ?_
    obtain ⟨z4, hz4, h⟩ := stB h
    refine ctV (av := [.int 0, .int 1, .int 1]) (st0 := ([] : List Value)) (st1 := ([] : List Value)) F hw hA (k_X5_adds hz4) kl_5_196 kd_X5_adds rfl ⟨by decide, by decide⟩ 0 rfl rfl hl.1 rfl (Nat.le_of_ble_eq_true rfl) dX5_less_22 rfl (fun H locs hw => ?_)
    refine lv_aload_n hx hb dX5_less_25 rfl (lv_at hl 0 rfl) ?_
    refine lv_iload_n hx hb dX5_less_26 rfl (lv_at hl 3 rfl) ?_
    obtain ⟨z5, hz5, h⟩ := stB h
    refine ctV (av := [.int v3]) (st0 := ([] : List Value)) (st1 := ([.int z5.1] : List Value)) F hw hA (k_X5_lays hz5) kl_5_183 kd_X5_lays rfl ⟨by decide, by decide⟩ 0 rfl rfl hl.1 rfl (Nat.le_of_ble_eq_true rfl) dX5_less_27 rfl (fun H locs hw => ?_)
    obtain rfl := Option.some.inj h
    exact hE H locs _ ls hw dX5_less_30
  · replace h := stT c2 h
    refine lv_iconst (v := -1) hx hb dX5_less_10 (by decide) ?_
    obtain rfl := Option.some.inj h
    exact hE H locs _ ls hw dX5_less_11
end
theorem dX5_product_0 : decode cX5_product 0 = .ok (.aload_n 0, 1) := by decide +kernel
theorem dX5_product_1 : decode cX5_product 1 = .ok (.iload_n 1, 1) := by decide +kernel
theorem dX5_product_2 : decode cX5_product 2 = .ok (.iload_n 2, 1) := by decide +kernel
theorem dX5_product_3 : decode cX5_product 3 = .ok (.iload_n 3, 1) := by decide +kernel
theorem dX5_product_4 : decode cX5_product 4 = .ok (.invokevirtual 189, 3) := by decide +kernel
theorem dX5_product_7 : decode cX5_product 7 = .ok (.ifCond .ne 5, 3) := by decide +kernel
theorem dX5_product_10 : decode cX5_product 10 = .ok (.iconst (-1), 1) := by decide +kernel
theorem dX5_product_11 : decode cX5_product 11 = .ok (.ireturn, 1) := by decide +kernel
theorem dX5_product_12 : decode cX5_product 12 = .ok (.aload_n 0, 1) := by decide +kernel
theorem dX5_product_13 : decode cX5_product 13 = .ok (.iload_n 1, 1) := by decide +kernel
theorem dX5_product_14 : decode cX5_product 14 = .ok (.iload_n 2, 1) := by decide +kernel
theorem dX5_product_15 : decode cX5_product 15 = .ok (.invokevirtual 193, 3) := by decide +kernel
theorem dX5_product_18 : decode cX5_product 18 = .ok (.aload_n 0, 1) := by decide +kernel
theorem dX5_product_19 : decode cX5_product 19 = .ok (.iconst 0, 1) := by decide +kernel
theorem dX5_product_20 : decode cX5_product 20 = .ok (.iconst 1, 1) := by decide +kernel
theorem dX5_product_21 : decode cX5_product 21 = .ok (.invokevirtual 200, 3) := by decide +kernel
theorem dX5_product_24 : decode cX5_product 24 = .ok (.aload_n 0, 1) := by decide +kernel
theorem dX5_product_25 : decode cX5_product 25 = .ok (.iload_n 3, 1) := by decide +kernel
theorem dX5_product_26 : decode cX5_product 26 = .ok (.invokevirtual 183, 3) := by decide +kernel
theorem dX5_product_29 : decode cX5_product 29 = .ok (.ireturn, 1) := by decide +kernel
section
variable {p : Program} {l : Launch} {e : Env} {s : State} {m : MethodId} {args : Array Value} {below : List Frame} {meth : Method} {c : Code} {Q : State → Prop} {G : GG} {A : Nat → Prop} {q : Nat → Nat} {fr : va_W}
def f_X5_product (yp : Int32) (ye : Int32) (bPo : Nat → Int32) (bTb : Nat → Int32) (wSh : Nat → Int64) (bOs : Nat → Int32) (bOn : Nat → Int32) (yop : Int32) (bSo : Nat → Int32) (bNu : Nat → Int32) (ytr : Int32) (yiw : Int32) (wMa : Nat → Int64) (wPr : Nat → Int64) (v1 : Int32) (v2 : Int32) (v3 : Int32) : Option (Int32 × (Nat → Int64) × Int32 × (Nat → Int32) × (Nat → Int32) × Int32 × Int32 × (Nat → Int64) × (Nat → Int64)) :=
  (f_X5_areShelves v1 v2 v3).bind fun z1 =>
  if z1 = 0 then
  some ((-1), wSh, yop, bSo, bNu, ytr, yiw, wMa, wPr)
  else
  (f_X5_takesBoth ye wSh yop yiw wMa v1 v2).bind fun z3 =>
  (f_X5_multiplies yp ye bPo bTb bOs bOn z3.1 bSo bNu ytr z3.2.1 z3.2.2 wPr 0 1).bind fun z4 =>
  (f_X5_lays ye wSh z4.2.2.2.1 z4.2.2.2.2.1 v3).bind fun z5 =>
  some (z5.1, z5.2, z3.1, z4.1, z4.2.1, z4.2.2.1, z4.2.2.2.1, z4.2.2.2.2.1, z4.2.2.2.2.2)
set_option maxHeartbeats 4000000 in
set_option maxRecDepth 100000 in
theorem k_X5_product {l : Launch} {G : GG} {q : Nat → Nat} {fr : va_W}  {yp : Int32} {ye : Int32} {yg : Int32} {bPo : Nat → Int32} {bTb : Nat → Int32} {wSh : Nat → Int64} {wTe : Nat → Int64} {wNx : Nat → Int64} {bOs : Nat → Int32} {bOn : Nat → Int32} {yop : Int32} {bSo : Nat → Int32} {bNu : Nat → Int32} {ytr : Int32} {yiw : Int32} {wMa : Nat → Int64} {wPr : Nat → Int64} {bTp : Nat → Int32} {yln : Int32} {ypl : Int32} {yfa : Int32} {wLi : Nat → Int64} {bSi : Nat → Int32} {yhp : Int32} {yhe : Int32} {yhg : Int32} {wHs : Nat → Int64} {yhi : Int32} {v1 : Int32} {v2 : Int32} {v3 : Int32} {z : Int32 × (Nat → Int64) × Int32 × (Nat → Int32) × (Nat → Int32) × Int32 × Int32 × (Nat → Int64) × (Nat → Int64)}  (h : f_X5_product yp ye bPo bTb wSh bOs bOn yop bSo bNu ytr yiw wMa wPr v1 v2 v3 = some z) : Ct l G yX5_product cX5_product 4 (some .int) 6 159 [.ref (q 0), .int v1, .int v2, .int v3] (mW G q yp ye yg bPo bTb wSh wTe wNx bOs bOn yop bSo bNu ytr yiw wMa wPr bTp yln ypl yfa wLi bSi yhp yhe yhg wHs yhi ++ fr) (some (.int z.1)) (mW G q yp ye yg bPo bTb z.2.1 wTe wNx bOs bOn z.2.2.1 z.2.2.2.1 z.2.2.2.2.1 z.2.2.2.2.2.1 z.2.2.2.2.2.2.1 z.2.2.2.2.2.2.2.1 z.2.2.2.2.2.2.2.2 bTp yln ypl yfa wLi bSi yhp yhe yhg wHs yhi ++ fr) := by
  refine Ct.of (by decide +kernel) (Nat.le_of_ble_eq_true rfl) trivial ?_
  intro p e s m args below meth c Q A ls F hw hA hE hl
  have hx := F.x
  have hb := F.b
  unfold f_X5_product at h
  obtain ⟨H, hH⟩ : ∃ H, H = s.heap := ⟨_, rfl⟩
  obtain ⟨locs, hlo⟩ : ∃ locs : List Loc, locs = [] := ⟨_, rfl⟩
  rw [← hH, ← hlo] at hw ⊢
  have hl : lv_has ls 4 [(0, .ref (q 0)), (1, .int v1), (2, .int v2), (3, .int v3)] := hl
  refine lv_aload_n hx hb dX5_product_0 rfl (lv_at hl 0 rfl) ?_
  refine lv_iload_n hx hb dX5_product_1 rfl (lv_at hl 1 rfl) ?_
  refine lv_iload_n hx hb dX5_product_2 rfl (lv_at hl 2 rfl) ?_
  refine lv_iload_n hx hb dX5_product_3 rfl (lv_at hl 3 rfl) ?_
  obtain ⟨z1, hz1, h⟩ := stB h
  refine ctV (av := [.int v1, .int v2, .int v3]) (st0 := ([] : List Value)) (st1 := ([.int z1] : List Value)) F hw hA (k_X5_areShelves hz1) kl_5_189 kd_X5_areShelves rfl ⟨by decide, by decide⟩ 0 rfl rfl hl.1 rfl (Nat.le_of_ble_eq_true rfl) dX5_product_4 rfl (fun H locs hw => ?_)
  refine lv_if_ne (tgt := 12) hx hb dX5_product_7 (by decide) (fun c2 => ?_) (fun c2 => ?_)
  · replace h := stF c2 h
    refine lv_aload_n hx hb dX5_product_12 rfl (lv_at hl 0 rfl) ?_
    refine lv_iload_n hx hb dX5_product_13 rfl (lv_at hl 1 rfl) ?_
    refine lv_iload_n hx hb dX5_product_14 rfl (lv_at hl 2 rfl) ?_
    obtain ⟨z3, hz3, h⟩ := stB h
    refine ctV (av := [.int v1, .int v2]) (st0 := ([] : List Value)) (st1 := ([] : List Value)) F hw hA (k_X5_takesBoth hz3) kl_5_193 kd_X5_takesBoth rfl ⟨by decide, by decide⟩ 0 rfl rfl hl.1 rfl (Nat.le_of_ble_eq_true rfl) dX5_product_15 rfl (fun H locs hw => ?_)
    refine lv_aload_n hx hb dX5_product_18 rfl (lv_at hl 0 rfl) ?_
    refine lv_iconst (v := 0) hx hb dX5_product_19 (by decide) ?_
    refine lv_iconst (v := 1) hx hb dX5_product_20 (by decide) ?_
    obtain ⟨z4, hz4, h⟩ := stB h
    refine ctV (av := [.int 0, .int 1]) (st0 := ([] : List Value)) (st1 := ([] : List Value)) F hw hA (k_X5_multiplies hz4) kl_5_200 kd_X5_multiplies rfl ⟨by decide, by decide⟩ 0 rfl rfl hl.1 rfl (Nat.le_of_ble_eq_true rfl) dX5_product_21 rfl (fun H locs hw => ?_)
    refine lv_aload_n hx hb dX5_product_24 rfl (lv_at hl 0 rfl) ?_
    refine lv_iload_n hx hb dX5_product_25 rfl (lv_at hl 3 rfl) ?_
    obtain ⟨z5, hz5, h⟩ := stB h
    refine ctV (av := [.int v3]) (st0 := ([] : List Value)) (st1 := ([.int z5.1] : List Value)) F hw hA (k_X5_lays hz5) kl_5_183 kd_X5_lays rfl ⟨by decide, by decide⟩ 0 rfl rfl hl.1 rfl (Nat.le_of_ble_eq_true rfl) dX5_product_26 rfl (fun H locs hw => ?_)
    obtain rfl := Option.some.inj h
    exact hE H locs _ ls hw dX5_product_29
  · replace h := stT c2 h
    refine lv_iconst (v := -1) hx hb dX5_product_10 (by decide) ?_
    obtain rfl := Option.some.inj h
    exact hE H locs _ ls hw dX5_product_11
end
theorem dX5_raise_0 : decode cX5_raise 0 = .ok (.iload_n 1, 1) := by decide +kernel
theorem dX5_raise_1 : decode cX5_raise 1 = .ok (.invokestatic 174, 3) := by decide +kernel
theorem dX5_raise_4 : decode cX5_raise 4 = .ok (.ifCond .eq 10, 3) := by decide +kernel
theorem dX5_raise_7 : decode cX5_raise 7 = .ok (.iload_n 3, 1) := by decide +kernel
theorem dX5_raise_8 : decode cX5_raise 8 = .ok (.invokestatic 174, 3) := by decide +kernel
theorem dX5_raise_11 : decode cX5_raise 11 = .ok (.ifCond .ne 5, 3) := by decide +kernel
theorem dX5_raise_14 : decode cX5_raise 14 = .ok (.iconst (-1), 1) := by decide +kernel
theorem dX5_raise_15 : decode cX5_raise 15 = .ok (.ireturn, 1) := by decide +kernel
theorem dX5_raise_16 : decode cX5_raise 16 = .ok (.iload_n 2, 1) := by decide +kernel
theorem dX5_raise_17 : decode cX5_raise 17 = .ok (.i2l, 1) := by decide +kernel
theorem dX5_raise_18 : decode cX5_raise 18 = .ok (.lconst 0, 1) := by decide +kernel
theorem dX5_raise_19 : decode cX5_raise 19 = .ok (.ldc2_w 203, 3) := by decide +kernel
theorem dX5_raise_22 : decode cX5_raise 22 = .ok (.invokestatic 90, 3) := by decide +kernel
theorem dX5_raise_25 : decode cX5_raise 25 = .ok (.ifCond .ne 6, 3) := by decide +kernel
theorem dX5_raise_28 : decode cX5_raise 28 = .ok (.bipush (-2), 2) := by decide +kernel
theorem dX5_raise_30 : decode cX5_raise 30 = .ok (.ireturn, 1) := by decide +kernel
theorem dX5_raise_31 : decode cX5_raise 31 = .ok (.aload_n 0, 1) := by decide +kernel
theorem dX5_raise_32 : decode cX5_raise 32 = .ok (.invokevirtual 177, 3) := by decide +kernel
theorem dX5_raise_35 : decode cX5_raise 35 = .ok (.aload_n 0, 1) := by decide +kernel
theorem dX5_raise_36 : decode cX5_raise 36 = .ok (.iconst 0, 1) := by decide +kernel
theorem dX5_raise_37 : decode cX5_raise 37 = .ok (.lconst 1, 1) := by decide +kernel
theorem dX5_raise_38 : decode cX5_raise 38 = .ok (.invokevirtual 179, 3) := by decide +kernel
theorem dX5_raise_41 : decode cX5_raise 41 = .ok (.aload_n 0, 1) := by decide +kernel
theorem dX5_raise_42 : decode cX5_raise 42 = .ok (.iconst 1, 1) := by decide +kernel
theorem dX5_raise_43 : decode cX5_raise 43 = .ok (.iload_n 1, 1) := by decide +kernel
theorem dX5_raise_44 : decode cX5_raise 44 = .ok (.invokevirtual 186, 3) := by decide +kernel
theorem dX5_raise_47 : decode cX5_raise 47 = .ok (.iconst 0, 1) := by decide +kernel
theorem dX5_raise_48 : decode cX5_raise 48 = .ok (.istore 4, 2) := by decide +kernel
theorem dX5_raise_50 : decode cX5_raise 50 = .ok (.iload 4, 2) := by decide +kernel
theorem dX5_raise_52 : decode cX5_raise 52 = .ok (.iload_n 2, 1) := by decide +kernel
theorem dX5_raise_53 : decode cX5_raise 53 = .ok (.if_icmp .ge 34, 3) := by decide +kernel
theorem dX5_raise_56 : decode cX5_raise 56 = .ok (.aload_n 0, 1) := by decide +kernel
theorem dX5_raise_57 : decode cX5_raise 57 = .ok (.getfield 150, 3) := by decide +kernel
theorem dX5_raise_60 : decode cX5_raise 60 = .ok (.ifCond .ne 27, 3) := by decide +kernel
theorem dX5_raise_63 : decode cX5_raise 63 = .ok (.aload_n 0, 1) := by decide +kernel
theorem dX5_raise_64 : decode cX5_raise 64 = .ok (.iconst 0, 1) := by decide +kernel
theorem dX5_raise_65 : decode cX5_raise 65 = .ok (.putfield 147, 3) := by decide +kernel
theorem dX5_raise_68 : decode cX5_raise 68 = .ok (.aload_n 0, 1) := by decide +kernel
theorem dX5_raise_69 : decode cX5_raise 69 = .ok (.iconst 5, 1) := by decide +kernel
theorem dX5_raise_70 : decode cX5_raise 70 = .ok (.iload 4, 2) := by decide +kernel
theorem dX5_raise_72 : decode cX5_raise 72 = .ok (.invokevirtual 205, 3) := by decide +kernel
theorem dX5_raise_75 : decode cX5_raise 75 = .ok (.aload_n 0, 1) := by decide +kernel
theorem dX5_raise_76 : decode cX5_raise 76 = .ok (.iconst 0, 1) := by decide +kernel
theorem dX5_raise_77 : decode cX5_raise 77 = .ok (.iconst 1, 1) := by decide +kernel
theorem dX5_raise_78 : decode cX5_raise 78 = .ok (.invokevirtual 200, 3) := by decide +kernel
theorem dX5_raise_81 : decode cX5_raise 81 = .ok (.iinc 4 1, 3) := by decide +kernel
theorem dX5_raise_84 : decode cX5_raise 84 = .ok (.goto (-34), 3) := by decide +kernel
theorem dX5_raise_87 : decode cX5_raise 87 = .ok (.aload_n 0, 1) := by decide +kernel
theorem dX5_raise_88 : decode cX5_raise 88 = .ok (.iload_n 3, 1) := by decide +kernel
theorem dX5_raise_89 : decode cX5_raise 89 = .ok (.invokevirtual 183, 3) := by decide +kernel
theorem dX5_raise_92 : decode cX5_raise 92 = .ok (.ireturn, 1) := by decide +kernel
section
variable {p : Program} {l : Launch} {e : Env} {s : State} {m : MethodId} {args : Array Value} {below : List Frame} {meth : Method} {c : Code} {Q : State → Prop} {G : GG} {A : Nat → Prop} {q : Nat → Nat} {fr : va_W}
def f_X5_raise_L50 (yp : Int32) (ye : Int32) (bPo : Nat → Int32) (bTb : Nat → Int32) (v1 : Int32) (v2 : Int32) (v3 : Int32) : Nat → (Nat → Int64) → (Nat → Int32) → (Nat → Int32) → Int32 → (Nat → Int32) → (Nat → Int32) → Int32 → Int32 → (Nat → Int64) → (Nat → Int64) → Int32 → Option (Int32 × (Nat → Int64) × (Nat → Int32) × (Nat → Int32) × Int32 × (Nat → Int32) × (Nat → Int32) × Int32 × Int32 × (Nat → Int64) × (Nat → Int64))
  | 0, _, _, _, _, _, _, _, _, _, _, _ => none
  | fu + 1, wSh, bOs, bOn, yop, bSo, bNu, ytr, yiw, wMa, wPr, v4 =>
    if v2 ≤ v4 then
    (f_X5_lays ye wSh yiw wMa v3).bind fun z2 =>
    some (z2.1, z2.2, bOs, bOn, yop, bSo, bNu, ytr, yiw, wMa, wPr)
    else
    if yiw = 0 then
    (f_X5_opens bOs bOn 0 5 v4).bind fun z5 =>
    (f_X5_multiplies yp ye bPo bTb z5.1 z5.2.1 z5.2.2 bSo bNu ytr yiw wMa wPr 0 1).bind fun z6 =>
    f_X5_raise_L50 yp ye bPo bTb v1 v2 v3 fu wSh z5.1 z5.2.1 z5.2.2 z6.1 z6.2.1 z6.2.2.1 z6.2.2.2.1 z6.2.2.2.2.1 z6.2.2.2.2.2 (v4 + 1)
    else
    (f_X5_lays ye wSh yiw wMa v3).bind fun z4 =>
    some (z4.1, z4.2, bOs, bOn, yop, bSo, bNu, ytr, yiw, wMa, wPr)
set_option maxHeartbeats 4000000 in
set_option maxRecDepth 100000 in
theorem w_X5_raise_L50  {yp : Int32} {ye : Int32} {yg : Int32} {bPo : Nat → Int32} {bTb : Nat → Int32} {wTe : Nat → Int64} {wNx : Nat → Int64} {bTp : Nat → Int32} {yln : Int32} {ypl : Int32} {yfa : Int32} {wLi : Nat → Int64} {bSi : Nat → Int32} {yhp : Int32} {yhe : Int32} {yhg : Int32} {wHs : Nat → Int64} {yhi : Int32} {v1 : Int32} {v2 : Int32} {v3 : Int32}  (F : Fx p s m args meth c cX5_raise 5 RX5 (some .int)) (hA : ∀ q, s.heap.size ≤ q → A q)   : ∀ (fu : Nat) (wSh : Nat → Int64) (bOs : Nat → Int32) (bOn : Nat → Int32) (yop : Int32) (bSo : Nat → Int32) (bNu : Nat → Int32) (ytr : Int32) (yiw : Int32) (wMa : Nat → Int64) (wPr : Nat → Int64) (v4 : Int32) (z : Int32 × (Nat → Int64) × (Nat → Int32) × (Nat → Int32) × Int32 × (Nat → Int32) × (Nat → Int32) × Int32 × Int32 × (Nat → Int64) × (Nat → Int64)), f_X5_raise_L50 yp ye bPo bTb v1 v2 v3 fu wSh bOs bOn yop bSo bNu ytr yiw wMa wPr v4 = some z → Ends p l e (rmOf 6 159) s m args below meth c Q cX5_raise G A (some .int) (some (.int z.1)) (mW G q yp ye yg bPo bTb z.2.1 wTe wNx z.2.2.1 z.2.2.2.1 z.2.2.2.2.1 z.2.2.2.2.2.1 z.2.2.2.2.2.2.1 z.2.2.2.2.2.2.2.1 z.2.2.2.2.2.2.2.2.1 z.2.2.2.2.2.2.2.2.2.1 z.2.2.2.2.2.2.2.2.2.2 bTp yln ypl yfa wLi bSi yhp yhe yhg wHs yhi ++ fr) → ∀ (H : Heap) (locs : List Loc) (ls : Array Slot), Wd G s A (mW G q yp ye yg bPo bTb wSh wTe wNx bOs bOn yop bSo bNu ytr yiw wMa wPr bTp yln ypl yfa wLi bSi yhp yhe yhg wHs yhi ++ fr) H locs → lv_has ls 5 [(0, .ref (q 0)), (2, .int v2), (3, .int v3), (4, .int v4)] → W p l e (rmOf 6 159) s m args below meth c H locs 0 0 Q (F0 m 50 ls []) := by
  have hx := F.x
  have hb := F.b
  intro fu
  induction fu with
  | zero =>
    intro wSh bOs bOn yop bSo bNu ytr yiw wMa wPr v4 z h
    cases (h : none = some z)
  | succ fu ih =>
    intro wSh bOs bOn yop bSo bNu ytr yiw wMa wPr v4 z h hE H locs ls hw hl
    rw [f_X5_raise_L50] at h
    refine lv_iload hx hb dX5_raise_50 (lv_at hl 3 rfl) ?_
    refine lv_iload_n hx hb dX5_raise_52 rfl (lv_at hl 1 rfl) ?_
    refine lv_icmp_ge (tgt := 87) hx hb dX5_raise_53 (by decide) (fun c1 => ?_) (fun c1 => ?_)
    · replace h := stT c1 h
      refine lv_aload_n hx hb dX5_raise_87 rfl (lv_at hl 0 rfl) ?_
      refine lv_iload_n hx hb dX5_raise_88 rfl (lv_at hl 2 rfl) ?_
      obtain ⟨z2, hz2, h⟩ := stB h
      refine ctV (av := [.int v3]) (st0 := ([] : List Value)) (st1 := ([.int z2.1] : List Value)) F hw hA (k_X5_lays hz2) kl_5_183 kd_X5_lays rfl ⟨by decide, by decide⟩ 0 rfl rfl hl.1 rfl (Nat.le_of_ble_eq_true rfl) dX5_raise_89 rfl (fun H locs hw => ?_)
      obtain rfl := Option.some.inj h
      exact hE H locs _ ls hw dX5_raise_92
    · replace h := stF c1 h
      refine lv_aload_n hx hb dX5_raise_56 rfl (lv_at hl 0 rfl) ?_
      refine gf_5_150 F hw dX5_raise_57 ?_
      refine lv_if_ne (tgt := 87) hx hb dX5_raise_60 (by decide) (fun c3 => ?_) (fun c3 => ?_)
      · replace h := stF c3 h
        refine lv_aload_n hx hb dX5_raise_87 rfl (lv_at hl 0 rfl) ?_
        refine lv_iload_n hx hb dX5_raise_88 rfl (lv_at hl 2 rfl) ?_
        obtain ⟨z4, hz4, h⟩ := stB h
        refine ctV (av := [.int v3]) (st0 := ([] : List Value)) (st1 := ([.int z4.1] : List Value)) F hw hA (k_X5_lays hz4) kl_5_183 kd_X5_lays rfl ⟨by decide, by decide⟩ 0 rfl rfl hl.1 rfl (Nat.le_of_ble_eq_true rfl) dX5_raise_89 rfl (fun H locs hw => ?_)
        obtain rfl := Option.some.inj h
        exact hE H locs _ ls hw dX5_raise_92
      · replace h := stT c3 h
        refine lv_aload_n hx hb dX5_raise_63 rfl (lv_at hl 0 rfl) ?_
        refine lv_iconst (v := 0) hx hb dX5_raise_64 (by decide) ?_
        refine pf_5_147 F hw dX5_raise_65 (fun H locs hw => ?_)
        refine lv_aload_n hx hb dX5_raise_68 rfl (lv_at hl 0 rfl) ?_
        refine lv_iconst (v := 5) hx hb dX5_raise_69 (by decide) ?_
        refine lv_iload hx hb dX5_raise_70 (lv_at hl 3 rfl) ?_
        obtain ⟨z5, hz5, h⟩ := stB h
        refine ctV (av := [.int 5, .int v4]) (st0 := ([] : List Value)) (st1 := ([] : List Value)) F hw hA (k_X5_opens hz5) kl_5_205 kd_X5_opens rfl ⟨by decide, by decide⟩ 0 rfl rfl hl.1 rfl (Nat.le_of_ble_eq_true rfl) dX5_raise_72 rfl (fun H locs hw => ?_)
        refine lv_aload_n hx hb dX5_raise_75 rfl (lv_at hl 0 rfl) ?_
        refine lv_iconst (v := 0) hx hb dX5_raise_76 (by decide) ?_
        refine lv_iconst (v := 1) hx hb dX5_raise_77 (by decide) ?_
        obtain ⟨z6, hz6, h⟩ := stB h
        refine ctV (av := [.int 0, .int 1]) (st0 := ([] : List Value)) (st1 := ([] : List Value)) F hw hA (k_X5_multiplies hz6) kl_5_200 kd_X5_multiplies rfl ⟨by decide, by decide⟩ 0 rfl rfl hl.1 rfl (Nat.le_of_ble_eq_true rfl) dX5_raise_78 rfl (fun H locs hw => ?_)
        refine lv_iinc (v := (v4 + 1)) (lv' := [(4, .int (v4 + 1)), (0, .ref (q 0)), (2, .int v2), (3, .int v3)]) hx hb dX5_raise_81 hl (k := 3) rfl rfl (by decide) rfl (fun ls hl => ?_)
        refine lv_goto (tgt := 50) hx hb dX5_raise_84 (by decide) ?_
        exact ih _ _ _ _ _ _ _ _ _ _ _ z h hE H locs ls hw (lv_sub hl [1, 2, 3, 0] rfl)
def f_X5_raise (yp : Int32) (ye : Int32) (bPo : Nat → Int32) (bTb : Nat → Int32) (wSh : Nat → Int64) (bOs : Nat → Int32) (bOn : Nat → Int32) (yop : Int32) (bSo : Nat → Int32) (bNu : Nat → Int32) (ytr : Int32) (yiw : Int32) (wMa : Nat → Int64) (wPr : Nat → Int64) (v1 : Int32) (v2 : Int32) (v3 : Int32) : Option (Int32 × (Nat → Int64) × (Nat → Int32) × (Nat → Int32) × Int32 × (Nat → Int32) × (Nat → Int32) × Int32 × Int32 × (Nat → Int64) × (Nat → Int64)) :=
  (f_X5_isShelf v1).bind fun z1 =>
  if z1 = 0 then
  some ((-1), wSh, bOs, bOn, yop, bSo, bNu, ytr, yiw, wMa, wPr)
  else
  (f_X5_isShelf v3).bind fun z3 =>
  if z3 = 0 then
  some ((-1), wSh, bOs, bOn, yop, bSo, bNu, ytr, yiw, wMa, wPr)
  else
  (f_X5_in v2.toInt64 0 40).bind fun z5 =>
  if z5 = 0 then
  some ((-2), wSh, bOs, bOn, yop, bSo, bNu, ytr, yiw, wMa, wPr)
  else
  (f_X5_begins_ yop yiw).bind fun z7 =>
  (f_X5_becomesWhole ye wMa 0 1).bind fun z8 =>
  (f_X5_takes ye wSh z8 1 v1).bind fun z9 =>
  f_X5_raise_L50 yp ye bPo bTb v1 v2 v3 FU wSh bOs bOn z7.1 bSo bNu ytr z7.2 z9 wPr 0
set_option maxHeartbeats 4000000 in
set_option maxRecDepth 100000 in
theorem k_X5_raise {l : Launch} {G : GG} {q : Nat → Nat} {fr : va_W}  {yp : Int32} {ye : Int32} {yg : Int32} {bPo : Nat → Int32} {bTb : Nat → Int32} {wSh : Nat → Int64} {wTe : Nat → Int64} {wNx : Nat → Int64} {bOs : Nat → Int32} {bOn : Nat → Int32} {yop : Int32} {bSo : Nat → Int32} {bNu : Nat → Int32} {ytr : Int32} {yiw : Int32} {wMa : Nat → Int64} {wPr : Nat → Int64} {bTp : Nat → Int32} {yln : Int32} {ypl : Int32} {yfa : Int32} {wLi : Nat → Int64} {bSi : Nat → Int32} {yhp : Int32} {yhe : Int32} {yhg : Int32} {wHs : Nat → Int64} {yhi : Int32} {v1 : Int32} {v2 : Int32} {v3 : Int32} {z : Int32 × (Nat → Int64) × (Nat → Int32) × (Nat → Int32) × Int32 × (Nat → Int32) × (Nat → Int32) × Int32 × Int32 × (Nat → Int64) × (Nat → Int64)}  (h : f_X5_raise yp ye bPo bTb wSh bOs bOn yop bSo bNu ytr yiw wMa wPr v1 v2 v3 = some z) : Ct l G yX5_raise cX5_raise 5 (some .int) 6 159 [.ref (q 0), .int v1, .int v2, .int v3] (mW G q yp ye yg bPo bTb wSh wTe wNx bOs bOn yop bSo bNu ytr yiw wMa wPr bTp yln ypl yfa wLi bSi yhp yhe yhg wHs yhi ++ fr) (some (.int z.1)) (mW G q yp ye yg bPo bTb z.2.1 wTe wNx z.2.2.1 z.2.2.2.1 z.2.2.2.2.1 z.2.2.2.2.2.1 z.2.2.2.2.2.2.1 z.2.2.2.2.2.2.2.1 z.2.2.2.2.2.2.2.2.1 z.2.2.2.2.2.2.2.2.2.1 z.2.2.2.2.2.2.2.2.2.2 bTp yln ypl yfa wLi bSi yhp yhe yhg wHs yhi ++ fr) := by
  refine Ct.of (by decide +kernel) (Nat.le_of_ble_eq_true rfl) trivial ?_
  intro p e s m args below meth c Q A ls F hw hA hE hl
  have hx := F.x
  have hb := F.b
  unfold f_X5_raise at h
  obtain ⟨H, hH⟩ : ∃ H, H = s.heap := ⟨_, rfl⟩
  obtain ⟨locs, hlo⟩ : ∃ locs : List Loc, locs = [] := ⟨_, rfl⟩
  rw [← hH, ← hlo] at hw ⊢
  have hl : lv_has ls 5 [(0, .ref (q 0)), (1, .int v1), (2, .int v2), (3, .int v3)] := hl
  refine lv_iload_n hx hb dX5_raise_0 rfl (lv_at hl 1 rfl) ?_
  obtain ⟨z1, hz1, h⟩ := stB h
  refine ctS (av := [.int v1]) (st0 := ([] : List Value)) (st1 := ([.int z1] : List Value)) F hw hA (k_X5_isShelf hz1) kl_5_174 kd_X5_isShelf rfl ⟨by decide, by decide⟩ hl.1 rfl (Nat.le_of_ble_eq_true rfl) dX5_raise_1 rfl (fun H locs hw => ?_)
  refine lv_if_eq (tgt := 14) hx hb dX5_raise_4 (by decide) (fun c2 => ?_) (fun c2 => ?_)
  · replace h := stT c2 h
    refine lv_iconst (v := -1) hx hb dX5_raise_14 (by decide) ?_
    obtain rfl := Option.some.inj h
    exact hE H locs _ ls hw dX5_raise_15
  · replace h := stF c2 h
    refine lv_iload_n hx hb dX5_raise_7 rfl (lv_at hl 3 rfl) ?_
    obtain ⟨z3, hz3, h⟩ := stB h
    refine ctS (av := [.int v3]) (st0 := ([] : List Value)) (st1 := ([.int z3] : List Value)) F hw hA (k_X5_isShelf hz3) kl_5_174 kd_X5_isShelf rfl ⟨by decide, by decide⟩ hl.1 rfl (Nat.le_of_ble_eq_true rfl) dX5_raise_8 rfl (fun H locs hw => ?_)
    refine lv_if_ne (tgt := 16) hx hb dX5_raise_11 (by decide) (fun c4 => ?_) (fun c4 => ?_)
    · replace h := stF c4 h
      refine lv_iload_n hx hb dX5_raise_16 rfl (lv_at hl 2 rfl) ?_
      refine lv_i2l (v := v2.toInt64) hx hb dX5_raise_17 rfl ?_
      refine lv_lconst (v := 0) hx hb dX5_raise_18 (by decide) ?_
      refine lv_ldc2 (v := 40) hx hb F.ow (F.ts _ kc_5_203) dX5_raise_19 ?_
      obtain ⟨z5, hz5, h⟩ := stB h
      refine ctS (av := [.long v2.toInt64, .long 0, .long 40]) (st0 := ([] : List Value)) (st1 := ([.int z5] : List Value)) F hw hA (k_X5_in hz5) kl_5_90 kd_X5_in rfl ⟨by decide, by decide⟩ hl.1 rfl (Nat.le_of_ble_eq_true rfl) dX5_raise_22 rfl (fun H locs hw => ?_)
      refine lv_if_ne (tgt := 31) hx hb dX5_raise_25 (by decide) (fun c6 => ?_) (fun c6 => ?_)
      · replace h := stF c6 h
        refine lv_aload_n hx hb dX5_raise_31 rfl (lv_at hl 0 rfl) ?_
        obtain ⟨z7, hz7, h⟩ := stB h
        refine ctV (av := []) (st0 := ([] : List Value)) (st1 := ([] : List Value)) F hw hA (k_X5_begins_ hz7) kl_5_177 kd_X5_begins_ rfl ⟨by decide, by decide⟩ 0 rfl rfl hl.1 rfl (Nat.le_of_ble_eq_true rfl) dX5_raise_32 rfl (fun H locs hw => ?_)
        refine lv_aload_n hx hb dX5_raise_35 rfl (lv_at hl 0 rfl) ?_
        refine lv_iconst (v := 0) hx hb dX5_raise_36 (by decide) ?_
        refine lv_lconst (v := 1) hx hb dX5_raise_37 (by decide) ?_
        obtain ⟨z8, hz8, h⟩ := stB h
        refine ctV (av := [.int 0, .long 1]) (st0 := ([] : List Value)) (st1 := ([] : List Value)) F hw hA (k_X5_becomesWhole hz8) kl_5_179 kd_X5_becomesWhole rfl ⟨by decide, by decide⟩ 0 rfl rfl hl.1 rfl (Nat.le_of_ble_eq_true rfl) dX5_raise_38 rfl (fun H locs hw => ?_)
        refine lv_aload_n hx hb dX5_raise_41 rfl (lv_at hl 0 rfl) ?_
        refine lv_iconst (v := 1) hx hb dX5_raise_42 (by decide) ?_
        refine lv_iload_n hx hb dX5_raise_43 rfl (lv_at hl 1 rfl) ?_
        obtain ⟨z9, hz9, h⟩ := stB h
        refine ctV (av := [.int 1, .int v1]) (st0 := ([] : List Value)) (st1 := ([] : List Value)) F hw hA (k_X5_takes hz9) kl_5_186 kd_X5_takes rfl ⟨by decide, by decide⟩ 0 rfl rfl hl.1 rfl (Nat.le_of_ble_eq_true rfl) dX5_raise_44 rfl (fun H locs hw => ?_)
        refine lv_iconst (v := 0) hx hb dX5_raise_47 (by decide) ?_
        refine lv_istore (lv' := [(4, .int 0), (0, .ref (q 0)), (1, .int v1), (2, .int v2), (3, .int v3)]) hx hb dX5_raise_48 hl (by decide) rfl (fun ls hl => ?_)
        exact w_X5_raise_L50 F hA  FU _ _ _ _ _ _ _ _ _ _ _ z h hE H locs ls hw (lv_sub hl [1, 3, 4, 0] rfl)
      · replace h := stT c6 h
        refine lv_bipush (v := -2) hx hb dX5_raise_28 (by decide) ?_
        obtain rfl := Option.some.inj h
        exact hE H locs _ ls hw dX5_raise_30
    · replace h := stT c4 h
      refine lv_iconst (v := -1) hx hb dX5_raise_14 (by decide) ?_
      obtain rfl := Option.some.inj h
      exact hE H locs _ ls hw dX5_raise_15
end
theorem dX5_turns_0 : decode cX5_turns 0 = .ok (.iload_n 3, 1) := by decide +kernel
theorem dX5_turns_1 : decode cX5_turns 1 = .ok (.aload_n 0, 1) := by decide +kernel
theorem dX5_turns_2 : decode cX5_turns 2 = .ok (.getfield 66, 3) := by decide +kernel
theorem dX5_turns_5 : decode cX5_turns 5 = .ok (.irem, 1) := by decide +kernel
theorem dX5_turns_6 : decode cX5_turns 6 = .ok (.aload_n 0, 1) := by decide +kernel
theorem dX5_turns_7 : decode cX5_turns 7 = .ok (.getfield 66, 3) := by decide +kernel
theorem dX5_turns_10 : decode cX5_turns 10 = .ok (.iadd, 1) := by decide +kernel
theorem dX5_turns_11 : decode cX5_turns 11 = .ok (.aload_n 0, 1) := by decide +kernel
theorem dX5_turns_12 : decode cX5_turns 12 = .ok (.getfield 66, 3) := by decide +kernel
theorem dX5_turns_15 : decode cX5_turns 15 = .ok (.irem, 1) := by decide +kernel
theorem dX5_turns_16 : decode cX5_turns 16 = .ok (.istore 4, 2) := by decide +kernel
theorem dX5_turns_18 : decode cX5_turns 18 = .ok (.iconst 0, 1) := by decide +kernel
theorem dX5_turns_19 : decode cX5_turns 19 = .ok (.istore 5, 2) := by decide +kernel
theorem dX5_turns_21 : decode cX5_turns 21 = .ok (.iload 5, 2) := by decide +kernel
theorem dX5_turns_23 : decode cX5_turns 23 = .ok (.aload_n 0, 1) := by decide +kernel
theorem dX5_turns_24 : decode cX5_turns 24 = .ok (.getfield 66, 3) := by decide +kernel
theorem dX5_turns_27 : decode cX5_turns 27 = .ok (.if_icmp .ge 41, 3) := by decide +kernel
theorem dX5_turns_30 : decode cX5_turns 30 = .ok (.aload_n 0, 1) := by decide +kernel
theorem dX5_turns_31 : decode cX5_turns 31 = .ok (.getfield 40, 3) := by decide +kernel
theorem dX5_turns_34 : decode cX5_turns 34 = .ok (.bipush 12, 2) := by decide +kernel
theorem dX5_turns_36 : decode cX5_turns 36 = .ok (.iload_n 1, 1) := by decide +kernel
theorem dX5_turns_37 : decode cX5_turns 37 = .ok (.imul, 1) := by decide +kernel
theorem dX5_turns_38 : decode cX5_turns 38 = .ok (.iload 5, 2) := by decide +kernel
theorem dX5_turns_40 : decode cX5_turns 40 = .ok (.iload 4, 2) := by decide +kernel
theorem dX5_turns_42 : decode cX5_turns 42 = .ok (.iadd, 1) := by decide +kernel
theorem dX5_turns_43 : decode cX5_turns 43 = .ok (.aload_n 0, 1) := by decide +kernel
theorem dX5_turns_44 : decode cX5_turns 44 = .ok (.getfield 66, 3) := by decide +kernel
theorem dX5_turns_47 : decode cX5_turns 47 = .ok (.irem, 1) := by decide +kernel
theorem dX5_turns_48 : decode cX5_turns 48 = .ok (.iadd, 1) := by decide +kernel
theorem dX5_turns_49 : decode cX5_turns 49 = .ok (.aload_n 0, 1) := by decide +kernel
theorem dX5_turns_50 : decode cX5_turns 50 = .ok (.getfield 18, 3) := by decide +kernel
theorem dX5_turns_53 : decode cX5_turns 53 = .ok (.bipush 12, 2) := by decide +kernel
theorem dX5_turns_55 : decode cX5_turns 55 = .ok (.iload_n 2, 1) := by decide +kernel
theorem dX5_turns_56 : decode cX5_turns 56 = .ok (.imul, 1) := by decide +kernel
theorem dX5_turns_57 : decode cX5_turns 57 = .ok (.iload 5, 2) := by decide +kernel
theorem dX5_turns_59 : decode cX5_turns 59 = .ok (.iadd, 1) := by decide +kernel
theorem dX5_turns_60 : decode cX5_turns 60 = .ok (.laload, 1) := by decide +kernel
theorem dX5_turns_61 : decode cX5_turns 61 = .ok (.lastore, 1) := by decide +kernel
theorem dX5_turns_62 : decode cX5_turns 62 = .ok (.iinc 5 1, 3) := by decide +kernel
theorem dX5_turns_65 : decode cX5_turns 65 = .ok (.goto (-44), 3) := by decide +kernel
theorem dX5_turns_68 : decode cX5_turns 68 = .ok (.return_, 1) := by decide +kernel
section
variable {p : Program} {l : Launch} {e : Env} {s : State} {m : MethodId} {args : Array Value} {below : List Frame} {meth : Method} {c : Code} {Q : State → Prop} {G : GG} {A : Nat → Prop} {q : Nat → Nat} {fr : va_W}
def f_X5_turns_L21 (ye : Int32) (wSh : Nat → Int64) (v1 : Int32) (v2 : Int32) (v3 : Int32) : Nat → (Nat → Int64) → Int32 → Int32 → Option ((Nat → Int64))
  | 0, _, _, _ => none
  | fu + 1, wMa, v4, v5 =>
    if ye ≤ v5 then
    some wMa
    else
    if ye = 0 then none else
    if inb ((12 * v2) + v5) 48 then
    if inb ((12 * v1) + ((v5 + v4) - (v5 + v4) / ye * ye)) 480 then
    f_X5_turns_L21 ye wSh v1 v2 v3 fu (vp_updL wMa ((12 * v1) + ((v5 + v4) - (v5 + v4) / ye * ye)).toNatClampNeg (wSh ((12 * v2) + v5).toNatClampNeg)) v4 (v5 + 1)
    else none
    else none
set_option maxHeartbeats 4000000 in
set_option maxRecDepth 100000 in
theorem w_X5_turns_L21  {yp : Int32} {ye : Int32} {yg : Int32} {bPo : Nat → Int32} {bTb : Nat → Int32} {wSh : Nat → Int64} {wTe : Nat → Int64} {wNx : Nat → Int64} {bOs : Nat → Int32} {bOn : Nat → Int32} {yop : Int32} {bSo : Nat → Int32} {bNu : Nat → Int32} {ytr : Int32} {yiw : Int32} {wPr : Nat → Int64} {bTp : Nat → Int32} {yln : Int32} {ypl : Int32} {yfa : Int32} {wLi : Nat → Int64} {bSi : Nat → Int32} {yhp : Int32} {yhe : Int32} {yhg : Int32} {wHs : Nat → Int64} {yhi : Int32} {v1 : Int32} {v2 : Int32} {v3 : Int32}  (F : Fx p s m args meth c cX5_turns 6 RX5 none) (hA : ∀ q, s.heap.size ≤ q → A q)   : ∀ (fu : Nat) (wMa : Nat → Int64) (v4 : Int32) (v5 : Int32) (z : (Nat → Int64)), f_X5_turns_L21 ye wSh v1 v2 v3 fu wMa v4 v5 = some z → Ends p l e (rmOf 0 0) s m args below meth c Q cX5_turns G A none (none) (mW G q yp ye yg bPo bTb wSh wTe wNx bOs bOn yop bSo bNu ytr yiw z wPr bTp yln ypl yfa wLi bSi yhp yhe yhg wHs yhi ++ fr) → ∀ (H : Heap) (locs : List Loc) (ls : Array Slot), Wd G s A (mW G q yp ye yg bPo bTb wSh wTe wNx bOs bOn yop bSo bNu ytr yiw wMa wPr bTp yln ypl yfa wLi bSi yhp yhe yhg wHs yhi ++ fr) H locs → lv_has ls 6 [(0, .ref (q 0)), (1, .int v1), (2, .int v2), (4, .int v4), (5, .int v5)] → W p l e (rmOf 0 0) s m args below meth c H locs 0 0 Q (F0 m 21 ls []) := by
  have hx := F.x
  have hb := F.b
  intro fu
  induction fu with
  | zero =>
    intro wMa v4 v5 z h
    cases (h : none = some z)
  | succ fu ih =>
    intro wMa v4 v5 z h hE H locs ls hw hl
    rw [f_X5_turns_L21] at h
    refine lv_iload hx hb dX5_turns_21 (lv_at hl 4 rfl) ?_
    refine lv_aload_n hx hb dX5_turns_23 rfl (lv_at hl 0 rfl) ?_
    refine gf_5_66 F hw dX5_turns_24 ?_
    refine lv_icmp_ge (tgt := 68) hx hb dX5_turns_27 (by decide) (fun c1 => ?_) (fun c1 => ?_)
    · replace h := stT c1 h
      obtain rfl := Option.some.inj h
      exact hE H locs _ ls hw dX5_turns_68
    · replace h := stF c1 h
      refine lv_aload_n hx hb dX5_turns_30 rfl (lv_at hl 0 rfl) ?_
      refine gf_5_40 F hw dX5_turns_31 ?_
      refine lv_bipush (v := 12) hx hb dX5_turns_34 (by decide) ?_
      refine lv_iload_n hx hb dX5_turns_36 rfl (lv_at hl 1 rfl) ?_
      refine lv_imul hx hb dX5_turns_37 ?_
      refine lv_iload hx hb dX5_turns_38 (lv_at hl 4 rfl) ?_
      refine lv_iload hx hb dX5_turns_40 (lv_at hl 3 rfl) ?_
      refine lv_iadd hx hb dX5_turns_42 ?_
      refine lv_aload_n hx hb dX5_turns_43 rfl (lv_at hl 0 rfl) ?_
      refine gf_5_66 F hw dX5_turns_44 ?_
      obtain ⟨g2, h⟩ := stD h
      refine lv_irem hx hb dX5_turns_47 g2 ?_
      refine lv_iadd hx hb dX5_turns_48 ?_
      refine lv_aload_n hx hb dX5_turns_49 rfl (lv_at hl 0 rfl) ?_
      refine gf_5_18 F hw dX5_turns_50 ?_
      refine lv_bipush (v := 12) hx hb dX5_turns_53 (by decide) ?_
      refine lv_iload_n hx hb dX5_turns_55 rfl (lv_at hl 2 rfl) ?_
      refine lv_imul hx hb dX5_turns_56 ?_
      refine lv_iload hx hb dX5_turns_57 (lv_at hl 4 rfl) ?_
      refine lv_iadd hx hb dX5_turns_59 ?_
      obtain ⟨g3, h⟩ := stG h
      refine al_m3 F hw g3 dX5_turns_60 ?_
      obtain ⟨g4, h⟩ := stG h
      refine as_m10 F hw g4 dX5_turns_61 (fun H locs hw => ?_)
      refine lv_iinc (v := (v5 + 1)) (lv' := [(5, .int (v5 + 1)), (0, .ref (q 0)), (1, .int v1), (2, .int v2), (4, .int v4)]) hx hb dX5_turns_62 hl (k := 4) rfl rfl (by decide) rfl (fun ls hl => ?_)
      refine lv_goto (tgt := 21) hx hb dX5_turns_65 (by decide) ?_
      exact ih _ _ _ z h hE H locs ls hw (lv_sub hl [1, 2, 3, 4, 0] rfl)
def f_X5_turns (ye : Int32) (wSh : Nat → Int64) (wMa : Nat → Int64) (v1 : Int32) (v2 : Int32) (v3 : Int32) : Option ((Nat → Int64)) :=
  if ye = 0 then none else
  if ye = 0 then none else
  f_X5_turns_L21 ye wSh v1 v2 v3 FU wMa (((v3 - v3 / ye * ye) + ye) - ((v3 - v3 / ye * ye) + ye) / ye * ye) 0
set_option maxHeartbeats 4000000 in
set_option maxRecDepth 100000 in
theorem k_X5_turns {l : Launch} {G : GG} {q : Nat → Nat} {fr : va_W}  {yp : Int32} {ye : Int32} {yg : Int32} {bPo : Nat → Int32} {bTb : Nat → Int32} {wSh : Nat → Int64} {wTe : Nat → Int64} {wNx : Nat → Int64} {bOs : Nat → Int32} {bOn : Nat → Int32} {yop : Int32} {bSo : Nat → Int32} {bNu : Nat → Int32} {ytr : Int32} {yiw : Int32} {wMa : Nat → Int64} {wPr : Nat → Int64} {bTp : Nat → Int32} {yln : Int32} {ypl : Int32} {yfa : Int32} {wLi : Nat → Int64} {bSi : Nat → Int32} {yhp : Int32} {yhe : Int32} {yhg : Int32} {wHs : Nat → Int64} {yhi : Int32} {v1 : Int32} {v2 : Int32} {v3 : Int32} {z : (Nat → Int64)}  (h : f_X5_turns ye wSh wMa v1 v2 v3 = some z) : Ct l G yX5_turns cX5_turns 6 none 0 0 [.ref (q 0), .int v1, .int v2, .int v3] (mW G q yp ye yg bPo bTb wSh wTe wNx bOs bOn yop bSo bNu ytr yiw wMa wPr bTp yln ypl yfa wLi bSi yhp yhe yhg wHs yhi ++ fr) (none) (mW G q yp ye yg bPo bTb wSh wTe wNx bOs bOn yop bSo bNu ytr yiw z wPr bTp yln ypl yfa wLi bSi yhp yhe yhg wHs yhi ++ fr) := by
  refine Ct.of (by decide +kernel) (Nat.le_of_ble_eq_true rfl) trivial ?_
  intro p e s m args below meth c Q A ls F hw hA hE hl
  have hx := F.x
  have hb := F.b
  unfold f_X5_turns at h
  obtain ⟨H, hH⟩ : ∃ H, H = s.heap := ⟨_, rfl⟩
  obtain ⟨locs, hlo⟩ : ∃ locs : List Loc, locs = [] := ⟨_, rfl⟩
  rw [← hH, ← hlo] at hw ⊢
  have hl : lv_has ls 6 [(0, .ref (q 0)), (1, .int v1), (2, .int v2), (3, .int v3)] := hl
  refine lv_iload_n hx hb dX5_turns_0 rfl (lv_at hl 3 rfl) ?_
  refine lv_aload_n hx hb dX5_turns_1 rfl (lv_at hl 0 rfl) ?_
  refine gf_5_66 F hw dX5_turns_2 ?_
  obtain ⟨g1, h⟩ := stD h
  refine lv_irem hx hb dX5_turns_5 g1 ?_
  refine lv_aload_n hx hb dX5_turns_6 rfl (lv_at hl 0 rfl) ?_
  refine gf_5_66 F hw dX5_turns_7 ?_
  refine lv_iadd hx hb dX5_turns_10 ?_
  refine lv_aload_n hx hb dX5_turns_11 rfl (lv_at hl 0 rfl) ?_
  refine gf_5_66 F hw dX5_turns_12 ?_
  obtain ⟨g2, h⟩ := stD h
  refine lv_irem hx hb dX5_turns_15 g2 ?_
  refine lv_istore (lv' := [(4, .int (((v3 - v3 / ye * ye) + ye) - ((v3 - v3 / ye * ye) + ye) / ye * ye)), (0, .ref (q 0)), (1, .int v1), (2, .int v2), (3, .int v3)]) hx hb dX5_turns_16 hl (by decide) rfl (fun ls hl => ?_)
  refine lv_iconst (v := 0) hx hb dX5_turns_18 (by decide) ?_
  refine lv_istore (lv' := [(5, .int 0), (4, .int (((v3 - v3 / ye * ye) + ye) - ((v3 - v3 / ye * ye) + ye) / ye * ye)), (0, .ref (q 0)), (1, .int v1), (2, .int v2), (3, .int v3)]) hx hb dX5_turns_19 hl (by decide) rfl (fun ls hl => ?_)
  exact w_X5_turns_L21 F hA  FU _ _ _ z h hE H locs ls hw (lv_sub hl [2, 3, 4, 1, 0] rfl)
end
theorem dX5_turn_0 : decode cX5_turn 0 = .ok (.iload_n 1, 1) := by decide +kernel
theorem dX5_turn_1 : decode cX5_turn 1 = .ok (.invokestatic 174, 3) := by decide +kernel
theorem dX5_turn_4 : decode cX5_turn 4 = .ok (.ifCond .eq 10, 3) := by decide +kernel
theorem dX5_turn_7 : decode cX5_turn 7 = .ok (.iload_n 3, 1) := by decide +kernel
theorem dX5_turn_8 : decode cX5_turn 8 = .ok (.invokestatic 174, 3) := by decide +kernel
theorem dX5_turn_11 : decode cX5_turn 11 = .ok (.ifCond .ne 5, 3) := by decide +kernel
theorem dX5_turn_14 : decode cX5_turn 14 = .ok (.iconst (-1), 1) := by decide +kernel
theorem dX5_turn_15 : decode cX5_turn 15 = .ok (.ireturn, 1) := by decide +kernel
theorem dX5_turn_16 : decode cX5_turn 16 = .ok (.aload_n 0, 1) := by decide +kernel
theorem dX5_turn_17 : decode cX5_turn 17 = .ok (.invokevirtual 177, 3) := by decide +kernel
theorem dX5_turn_20 : decode cX5_turn 20 = .ok (.aload_n 0, 1) := by decide +kernel
theorem dX5_turn_21 : decode cX5_turn 21 = .ok (.iconst 0, 1) := by decide +kernel
theorem dX5_turn_22 : decode cX5_turn 22 = .ok (.iload_n 1, 1) := by decide +kernel
theorem dX5_turn_23 : decode cX5_turn 23 = .ok (.iload_n 2, 1) := by decide +kernel
theorem dX5_turn_24 : decode cX5_turn 24 = .ok (.invokevirtual 208, 3) := by decide +kernel
theorem dX5_turn_27 : decode cX5_turn 27 = .ok (.aload_n 0, 1) := by decide +kernel
theorem dX5_turn_28 : decode cX5_turn 28 = .ok (.iload_n 3, 1) := by decide +kernel
theorem dX5_turn_29 : decode cX5_turn 29 = .ok (.invokevirtual 183, 3) := by decide +kernel
theorem dX5_turn_32 : decode cX5_turn 32 = .ok (.ireturn, 1) := by decide +kernel
section
variable {p : Program} {l : Launch} {e : Env} {s : State} {m : MethodId} {args : Array Value} {below : List Frame} {meth : Method} {c : Code} {Q : State → Prop} {G : GG} {A : Nat → Prop} {q : Nat → Nat} {fr : va_W}
def f_X5_turn (ye : Int32) (wSh : Nat → Int64) (yop : Int32) (yiw : Int32) (wMa : Nat → Int64) (v1 : Int32) (v2 : Int32) (v3 : Int32) : Option (Int32 × (Nat → Int64) × Int32 × Int32 × (Nat → Int64)) :=
  (f_X5_isShelf v1).bind fun z1 =>
  if z1 = 0 then
  some ((-1), wSh, yop, yiw, wMa)
  else
  (f_X5_isShelf v3).bind fun z3 =>
  if z3 = 0 then
  some ((-1), wSh, yop, yiw, wMa)
  else
  (f_X5_begins_ yop yiw).bind fun z5 =>
  (f_X5_turns ye wSh wMa 0 v1 v2).bind fun z6 =>
  (f_X5_lays ye wSh z5.2 z6 v3).bind fun z7 =>
  some (z7.1, z7.2, z5.1, z5.2, z6)
set_option maxHeartbeats 4000000 in
set_option maxRecDepth 100000 in
theorem k_X5_turn {l : Launch} {G : GG} {q : Nat → Nat} {fr : va_W}  {yp : Int32} {ye : Int32} {yg : Int32} {bPo : Nat → Int32} {bTb : Nat → Int32} {wSh : Nat → Int64} {wTe : Nat → Int64} {wNx : Nat → Int64} {bOs : Nat → Int32} {bOn : Nat → Int32} {yop : Int32} {bSo : Nat → Int32} {bNu : Nat → Int32} {ytr : Int32} {yiw : Int32} {wMa : Nat → Int64} {wPr : Nat → Int64} {bTp : Nat → Int32} {yln : Int32} {ypl : Int32} {yfa : Int32} {wLi : Nat → Int64} {bSi : Nat → Int32} {yhp : Int32} {yhe : Int32} {yhg : Int32} {wHs : Nat → Int64} {yhi : Int32} {v1 : Int32} {v2 : Int32} {v3 : Int32} {z : Int32 × (Nat → Int64) × Int32 × Int32 × (Nat → Int64)}  (h : f_X5_turn ye wSh yop yiw wMa v1 v2 v3 = some z) : Ct l G yX5_turn cX5_turn 4 (some .int) 2 101 [.ref (q 0), .int v1, .int v2, .int v3] (mW G q yp ye yg bPo bTb wSh wTe wNx bOs bOn yop bSo bNu ytr yiw wMa wPr bTp yln ypl yfa wLi bSi yhp yhe yhg wHs yhi ++ fr) (some (.int z.1)) (mW G q yp ye yg bPo bTb z.2.1 wTe wNx bOs bOn z.2.2.1 bSo bNu ytr z.2.2.2.1 z.2.2.2.2 wPr bTp yln ypl yfa wLi bSi yhp yhe yhg wHs yhi ++ fr) := by
  refine Ct.of (by decide +kernel) (Nat.le_of_ble_eq_true rfl) trivial ?_
  intro p e s m args below meth c Q A ls F hw hA hE hl
  have hx := F.x
  have hb := F.b
  unfold f_X5_turn at h
  obtain ⟨H, hH⟩ : ∃ H, H = s.heap := ⟨_, rfl⟩
  obtain ⟨locs, hlo⟩ : ∃ locs : List Loc, locs = [] := ⟨_, rfl⟩
  rw [← hH, ← hlo] at hw ⊢
  have hl : lv_has ls 4 [(0, .ref (q 0)), (1, .int v1), (2, .int v2), (3, .int v3)] := hl
  refine lv_iload_n hx hb dX5_turn_0 rfl (lv_at hl 1 rfl) ?_
  obtain ⟨z1, hz1, h⟩ := stB h
  refine ctS (av := [.int v1]) (st0 := ([] : List Value)) (st1 := ([.int z1] : List Value)) F hw hA (k_X5_isShelf hz1) kl_5_174 kd_X5_isShelf rfl ⟨by decide, by decide⟩ hl.1 rfl (Nat.le_of_ble_eq_true rfl) dX5_turn_1 rfl (fun H locs hw => ?_)
  refine lv_if_eq (tgt := 14) hx hb dX5_turn_4 (by decide) (fun c2 => ?_) (fun c2 => ?_)
  · replace h := stT c2 h
    refine lv_iconst (v := -1) hx hb dX5_turn_14 (by decide) ?_
    obtain rfl := Option.some.inj h
    exact hE H locs _ ls hw dX5_turn_15
  · replace h := stF c2 h
    refine lv_iload_n hx hb dX5_turn_7 rfl (lv_at hl 3 rfl) ?_
    obtain ⟨z3, hz3, h⟩ := stB h
    refine ctS (av := [.int v3]) (st0 := ([] : List Value)) (st1 := ([.int z3] : List Value)) F hw hA (k_X5_isShelf hz3) kl_5_174 kd_X5_isShelf rfl ⟨by decide, by decide⟩ hl.1 rfl (Nat.le_of_ble_eq_true rfl) dX5_turn_8 rfl (fun H locs hw => ?_)
    refine lv_if_ne (tgt := 16) hx hb dX5_turn_11 (by decide) (fun c4 => ?_) (fun c4 => ?_)
    · replace h := stF c4 h
      refine lv_aload_n hx hb dX5_turn_16 rfl (lv_at hl 0 rfl) ?_
      obtain ⟨z5, hz5, h⟩ := stB h
      refine ctV (av := []) (st0 := ([] : List Value)) (st1 := ([] : List Value)) F hw hA (k_X5_begins_ hz5) kl_5_177 kd_X5_begins_ rfl ⟨by decide, by decide⟩ 0 rfl rfl hl.1 rfl (Nat.le_of_ble_eq_true rfl) dX5_turn_17 rfl (fun H locs hw => ?_)
      refine lv_aload_n hx hb dX5_turn_20 rfl (lv_at hl 0 rfl) ?_
      refine lv_iconst (v := 0) hx hb dX5_turn_21 (by decide) ?_
      refine lv_iload_n hx hb dX5_turn_22 rfl (lv_at hl 1 rfl) ?_
      refine lv_iload_n hx hb dX5_turn_23 rfl (lv_at hl 2 rfl) ?_
      obtain ⟨z6, hz6, h⟩ := stB h
      refine ctV (av := [.int 0, .int v1, .int v2]) (st0 := ([] : List Value)) (st1 := ([] : List Value)) F hw hA (k_X5_turns hz6) kl_5_208 kd_X5_turns rfl ⟨by decide, by decide⟩ 0 rfl rfl hl.1 rfl (Nat.le_of_ble_eq_true rfl) dX5_turn_24 rfl (fun H locs hw => ?_)
      refine lv_aload_n hx hb dX5_turn_27 rfl (lv_at hl 0 rfl) ?_
      refine lv_iload_n hx hb dX5_turn_28 rfl (lv_at hl 3 rfl) ?_
      obtain ⟨z7, hz7, h⟩ := stB h
      refine ctV (av := [.int v3]) (st0 := ([] : List Value)) (st1 := ([.int z7.1] : List Value)) F hw hA (k_X5_lays hz7) kl_5_183 kd_X5_lays rfl ⟨by decide, by decide⟩ 0 rfl rfl hl.1 rfl (Nat.le_of_ble_eq_true rfl) dX5_turn_29 rfl (fun H locs hw => ?_)
      obtain rfl := Option.some.inj h
      exact hE H locs _ ls hw dX5_turn_32
    · replace h := stT c4 h
      refine lv_iconst (v := -1) hx hb dX5_turn_14 (by decide) ?_
      obtain rfl := Option.some.inj h
      exact hE H locs _ ls hw dX5_turn_15
end
theorem dX5_norm_0 : decode cX5_norm 0 = .ok (.iload_n 1, 1) := by decide +kernel
theorem dX5_norm_1 : decode cX5_norm 1 = .ok (.invokestatic 174, 3) := by decide +kernel
theorem dX5_norm_4 : decode cX5_norm 4 = .ok (.ifCond .ne 7, 3) := by decide +kernel
theorem dX5_norm_7 : decode cX5_norm 7 = .ok (.ldc2_w 138, 3) := by decide +kernel
theorem dX5_norm_10 : decode cX5_norm 10 = .ok (.lreturn, 1) := by decide +kernel
theorem dX5_norm_11 : decode cX5_norm 11 = .ok (.aload_n 0, 1) := by decide +kernel
theorem dX5_norm_12 : decode cX5_norm 12 = .ok (.invokevirtual 177, 3) := by decide +kernel
theorem dX5_norm_15 : decode cX5_norm 15 = .ok (.aload_n 0, 1) := by decide +kernel
theorem dX5_norm_16 : decode cX5_norm 16 = .ok (.iconst 0, 1) := by decide +kernel
theorem dX5_norm_17 : decode cX5_norm 17 = .ok (.lconst 1, 1) := by decide +kernel
theorem dX5_norm_18 : decode cX5_norm 18 = .ok (.invokevirtual 179, 3) := by decide +kernel
theorem dX5_norm_21 : decode cX5_norm 21 = .ok (.iconst 0, 1) := by decide +kernel
theorem dX5_norm_22 : decode cX5_norm 22 = .ok (.istore_n 2, 1) := by decide +kernel
theorem dX5_norm_23 : decode cX5_norm 23 = .ok (.iload_n 2, 1) := by decide +kernel
theorem dX5_norm_24 : decode cX5_norm 24 = .ok (.aload_n 0, 1) := by decide +kernel
theorem dX5_norm_25 : decode cX5_norm 25 = .ok (.getfield 66, 3) := by decide +kernel
theorem dX5_norm_28 : decode cX5_norm 28 = .ok (.if_icmp .ge 40, 3) := by decide +kernel
theorem dX5_norm_31 : decode cX5_norm 31 = .ok (.aload_n 0, 1) := by decide +kernel
theorem dX5_norm_32 : decode cX5_norm 32 = .ok (.getfield 150, 3) := by decide +kernel
theorem dX5_norm_35 : decode cX5_norm 35 = .ok (.ifCond .ne 33, 3) := by decide +kernel
theorem dX5_norm_38 : decode cX5_norm 38 = .ok (.aload_n 0, 1) := by decide +kernel
theorem dX5_norm_39 : decode cX5_norm 39 = .ok (.iconst 0, 1) := by decide +kernel
theorem dX5_norm_40 : decode cX5_norm 40 = .ok (.putfield 147, 3) := by decide +kernel
theorem dX5_norm_43 : decode cX5_norm 43 = .ok (.aload_n 0, 1) := by decide +kernel
theorem dX5_norm_44 : decode cX5_norm 44 = .ok (.iconst 5, 1) := by decide +kernel
theorem dX5_norm_45 : decode cX5_norm 45 = .ok (.iload_n 2, 1) := by decide +kernel
theorem dX5_norm_46 : decode cX5_norm 46 = .ok (.invokevirtual 205, 3) := by decide +kernel
theorem dX5_norm_49 : decode cX5_norm 49 = .ok (.aload_n 0, 1) := by decide +kernel
theorem dX5_norm_50 : decode cX5_norm 50 = .ok (.iconst 1, 1) := by decide +kernel
theorem dX5_norm_51 : decode cX5_norm 51 = .ok (.iload_n 1, 1) := by decide +kernel
theorem dX5_norm_52 : decode cX5_norm 52 = .ok (.iload_n 2, 1) := by decide +kernel
theorem dX5_norm_53 : decode cX5_norm 53 = .ok (.invokevirtual 208, 3) := by decide +kernel
theorem dX5_norm_56 : decode cX5_norm 56 = .ok (.aload_n 0, 1) := by decide +kernel
theorem dX5_norm_57 : decode cX5_norm 57 = .ok (.iconst 0, 1) := by decide +kernel
theorem dX5_norm_58 : decode cX5_norm 58 = .ok (.iconst 1, 1) := by decide +kernel
theorem dX5_norm_59 : decode cX5_norm 59 = .ok (.invokevirtual 200, 3) := by decide +kernel
theorem dX5_norm_62 : decode cX5_norm 62 = .ok (.iinc 2 1, 3) := by decide +kernel
theorem dX5_norm_65 : decode cX5_norm 65 = .ok (.goto (-42), 3) := by decide +kernel
theorem dX5_norm_68 : decode cX5_norm 68 = .ok (.aload_n 0, 1) := by decide +kernel
theorem dX5_norm_69 : decode cX5_norm 69 = .ok (.getfield 150, 3) := by decide +kernel
theorem dX5_norm_72 : decode cX5_norm 72 = .ok (.ifCond .ne 30, 3) := by decide +kernel
theorem dX5_norm_75 : decode cX5_norm 75 = .ok (.aload_n 0, 1) := by decide +kernel
theorem dX5_norm_76 : decode cX5_norm 76 = .ok (.getfield 40, 3) := by decide +kernel
theorem dX5_norm_79 : decode cX5_norm 79 = .ok (.iconst 0, 1) := by decide +kernel
theorem dX5_norm_80 : decode cX5_norm 80 = .ok (.laload, 1) := by decide +kernel
theorem dX5_norm_81 : decode cX5_norm 81 = .ok (.ldc2_w 138, 3) := by decide +kernel
theorem dX5_norm_84 : decode cX5_norm 84 = .ok (.lcmp, 1) := by decide +kernel
theorem dX5_norm_85 : decode cX5_norm 85 = .ok (.ifCond .ne 17, 3) := by decide +kernel
theorem dX5_norm_88 : decode cX5_norm 88 = .ok (.aload_n 0, 1) := by decide +kernel
theorem dX5_norm_89 : decode cX5_norm 89 = .ok (.iconst 0, 1) := by decide +kernel
theorem dX5_norm_90 : decode cX5_norm 90 = .ok (.putfield 147, 3) := by decide +kernel
theorem dX5_norm_93 : decode cX5_norm 93 = .ok (.aload_n 0, 1) := by decide +kernel
theorem dX5_norm_94 : decode cX5_norm 94 = .ok (.iconst 4, 1) := by decide +kernel
theorem dX5_norm_95 : decode cX5_norm 95 = .ok (.aload_n 0, 1) := by decide +kernel
theorem dX5_norm_96 : decode cX5_norm 96 = .ok (.getfield 66, 3) := by decide +kernel
theorem dX5_norm_99 : decode cX5_norm 99 = .ok (.invokevirtual 161, 3) := by decide +kernel
theorem dX5_norm_102 : decode cX5_norm 102 = .ok (.aload_n 0, 1) := by decide +kernel
theorem dX5_norm_103 : decode cX5_norm 103 = .ok (.getfield 150, 3) := by decide +kernel
theorem dX5_norm_106 : decode cX5_norm 106 = .ok (.ifCond .eq 9, 3) := by decide +kernel
theorem dX5_norm_109 : decode cX5_norm 109 = .ok (.ldc2_w 138, 3) := by decide +kernel
theorem dX5_norm_112 : decode cX5_norm 112 = .ok (.goto 10, 3) := by decide +kernel
theorem dX5_norm_115 : decode cX5_norm 115 = .ok (.aload_n 0, 1) := by decide +kernel
theorem dX5_norm_116 : decode cX5_norm 116 = .ok (.getfield 40, 3) := by decide +kernel
theorem dX5_norm_119 : decode cX5_norm 119 = .ok (.iconst 0, 1) := by decide +kernel
theorem dX5_norm_120 : decode cX5_norm 120 = .ok (.laload, 1) := by decide +kernel
theorem dX5_norm_121 : decode cX5_norm 121 = .ok (.lneg, 1) := by decide +kernel
theorem dX5_norm_122 : decode cX5_norm 122 = .ok (.lreturn, 1) := by decide +kernel
section
variable {p : Program} {l : Launch} {e : Env} {s : State} {m : MethodId} {args : Array Value} {below : List Frame} {meth : Method} {c : Code} {Q : State → Prop} {G : GG} {A : Nat → Prop} {q : Nat → Nat} {fr : va_W}
def f_X5_norm_L23 (yp : Int32) (ye : Int32) (bPo : Nat → Int32) (bTb : Nat → Int32) (wSh : Nat → Int64) (v1 : Int32) : Nat → (Nat → Int32) → (Nat → Int32) → Int32 → (Nat → Int32) → (Nat → Int32) → Int32 → Int32 → (Nat → Int64) → (Nat → Int64) → Int32 → Option (Int64 × (Nat → Int32) × (Nat → Int32) × Int32 × (Nat → Int32) × (Nat → Int32) × Int32 × Int32 × (Nat → Int64) × (Nat → Int64))
  | 0, _, _, _, _, _, _, _, _, _, _ => none
  | fu + 1, bOs, bOn, yop, bSo, bNu, ytr, yiw, wMa, wPr, v2 =>
    if ye ≤ v2 then
    if yiw = 0 then
    if inb 0 480 then
    if (lg_cmp (wMa (0 : Int32).toNatClampNeg) (-9223372036854775808)) = 0 then
    (f_X5_wrong bOs bOn 0 bSo bNu ytr yiw 4 ye).bind fun z9 =>
    if z9.2.2.2 = 0 then
    if inb 0 480 then
    some ((-(wMa (0 : Int32).toNatClampNeg)), bOs, bOn, 0, z9.1, z9.2.1, z9.2.2.1, z9.2.2.2, wMa, wPr)
    else none
    else
    some ((-9223372036854775808), bOs, bOn, 0, z9.1, z9.2.1, z9.2.2.1, z9.2.2.2, wMa, wPr)
    else
    if yiw = 0 then
    if inb 0 480 then
    some ((-(wMa (0 : Int32).toNatClampNeg)), bOs, bOn, yop, bSo, bNu, ytr, yiw, wMa, wPr)
    else none
    else
    some ((-9223372036854775808), bOs, bOn, yop, bSo, bNu, ytr, yiw, wMa, wPr)
    else none
    else
    if yiw = 0 then
    if inb 0 480 then
    some ((-(wMa (0 : Int32).toNatClampNeg)), bOs, bOn, yop, bSo, bNu, ytr, yiw, wMa, wPr)
    else none
    else
    some ((-9223372036854775808), bOs, bOn, yop, bSo, bNu, ytr, yiw, wMa, wPr)
    else
    if yiw = 0 then
    (f_X5_opens bOs bOn 0 5 v2).bind fun z23 =>
    (f_X5_turns ye wSh wMa 1 v1 v2).bind fun z24 =>
    (f_X5_multiplies yp ye bPo bTb z23.1 z23.2.1 z23.2.2 bSo bNu ytr yiw z24 wPr 0 1).bind fun z25 =>
    f_X5_norm_L23 yp ye bPo bTb wSh v1 fu z23.1 z23.2.1 z23.2.2 z25.1 z25.2.1 z25.2.2.1 z25.2.2.2.1 z25.2.2.2.2.1 z25.2.2.2.2.2 (v2 + 1)
    else
    if yiw = 0 then
    if inb 0 480 then
    if (lg_cmp (wMa (0 : Int32).toNatClampNeg) (-9223372036854775808)) = 0 then
    (f_X5_wrong bOs bOn 0 bSo bNu ytr yiw 4 ye).bind fun z20 =>
    if z20.2.2.2 = 0 then
    if inb 0 480 then
    some ((-(wMa (0 : Int32).toNatClampNeg)), bOs, bOn, 0, z20.1, z20.2.1, z20.2.2.1, z20.2.2.2, wMa, wPr)
    else none
    else
    some ((-9223372036854775808), bOs, bOn, 0, z20.1, z20.2.1, z20.2.2.1, z20.2.2.2, wMa, wPr)
    else
    if yiw = 0 then
    if inb 0 480 then
    some ((-(wMa (0 : Int32).toNatClampNeg)), bOs, bOn, yop, bSo, bNu, ytr, yiw, wMa, wPr)
    else none
    else
    some ((-9223372036854775808), bOs, bOn, yop, bSo, bNu, ytr, yiw, wMa, wPr)
    else none
    else
    if yiw = 0 then
    if inb 0 480 then
    some ((-(wMa (0 : Int32).toNatClampNeg)), bOs, bOn, yop, bSo, bNu, ytr, yiw, wMa, wPr)
    else none
    else
    some ((-9223372036854775808), bOs, bOn, yop, bSo, bNu, ytr, yiw, wMa, wPr)
set_option maxHeartbeats 4000000 in
set_option maxRecDepth 100000 in
theorem w_X5_norm_L23  {yp : Int32} {ye : Int32} {yg : Int32} {bPo : Nat → Int32} {bTb : Nat → Int32} {wSh : Nat → Int64} {wTe : Nat → Int64} {wNx : Nat → Int64} {bTp : Nat → Int32} {yln : Int32} {ypl : Int32} {yfa : Int32} {wLi : Nat → Int64} {bSi : Nat → Int32} {yhp : Int32} {yhe : Int32} {yhg : Int32} {wHs : Nat → Int64} {yhi : Int32} {v1 : Int32}  (F : Fx p s m args meth c cX5_norm 3 RX5 (some .long)) (hA : ∀ q, s.heap.size ≤ q → A q)   : ∀ (fu : Nat) (bOs : Nat → Int32) (bOn : Nat → Int32) (yop : Int32) (bSo : Nat → Int32) (bNu : Nat → Int32) (ytr : Int32) (yiw : Int32) (wMa : Nat → Int64) (wPr : Nat → Int64) (v2 : Int32) (z : Int64 × (Nat → Int32) × (Nat → Int32) × Int32 × (Nat → Int32) × (Nat → Int32) × Int32 × Int32 × (Nat → Int64) × (Nat → Int64)), f_X5_norm_L23 yp ye bPo bTb wSh v1 fu bOs bOn yop bSo bNu ytr yiw wMa wPr v2 = some z → Ends p l e (rmOf 6 159) s m args below meth c Q cX5_norm G A (some .long) (some (.long z.1)) (mW G q yp ye yg bPo bTb wSh wTe wNx z.2.1 z.2.2.1 z.2.2.2.1 z.2.2.2.2.1 z.2.2.2.2.2.1 z.2.2.2.2.2.2.1 z.2.2.2.2.2.2.2.1 z.2.2.2.2.2.2.2.2.1 z.2.2.2.2.2.2.2.2.2 bTp yln ypl yfa wLi bSi yhp yhe yhg wHs yhi ++ fr) → ∀ (H : Heap) (locs : List Loc) (ls : Array Slot), Wd G s A (mW G q yp ye yg bPo bTb wSh wTe wNx bOs bOn yop bSo bNu ytr yiw wMa wPr bTp yln ypl yfa wLi bSi yhp yhe yhg wHs yhi ++ fr) H locs → lv_has ls 3 [(0, .ref (q 0)), (1, .int v1), (2, .int v2)] → W p l e (rmOf 6 159) s m args below meth c H locs 0 0 Q (F0 m 23 ls []) := by
  have hx := F.x
  have hb := F.b
  intro fu
  induction fu with
  | zero =>
    intro bOs bOn yop bSo bNu ytr yiw wMa wPr v2 z h
    cases (h : none = some z)
  | succ fu ih =>
    intro bOs bOn yop bSo bNu ytr yiw wMa wPr v2 z h hE H locs ls hw hl
    rw [f_X5_norm_L23] at h
    refine lv_iload_n hx hb dX5_norm_23 rfl (lv_at hl 2 rfl) ?_
    refine lv_aload_n hx hb dX5_norm_24 rfl (lv_at hl 0 rfl) ?_
    refine gf_5_66 F hw dX5_norm_25 ?_
    refine lv_icmp_ge (tgt := 68) hx hb dX5_norm_28 (by decide) (fun c1 => ?_) (fun c1 => ?_)
    · replace h := stT c1 h
      refine lv_aload_n hx hb dX5_norm_68 rfl (lv_at hl 0 rfl) ?_
      refine gf_5_150 F hw dX5_norm_69 ?_
      refine lv_if_ne (tgt := 102) hx hb dX5_norm_72 (by decide) (fun c2 => ?_) (fun c2 => ?_)
      · replace h := stF c2 h
        refine lv_aload_n hx hb dX5_norm_102 rfl (lv_at hl 0 rfl) ?_
        refine gf_5_150 F hw dX5_norm_103 ?_
        refine lv_if_eq (tgt := 115) hx hb dX5_norm_106 (by decide) (fun c3 => ?_) (fun c3 => ?_)
        · replace h := stT c3 h
          refine lv_aload_n hx hb dX5_norm_115 rfl (lv_at hl 0 rfl) ?_
          refine gf_5_40 F hw dX5_norm_116 ?_
          refine lv_iconst (v := 0) hx hb dX5_norm_119 (by decide) ?_
          obtain ⟨g4, h⟩ := stG h
          refine al_m10 F hw g4 dX5_norm_120 ?_
          refine lv_lneg hx hb dX5_norm_121 ?_
          obtain rfl := Option.some.inj h
          exact hE H locs _ ls hw dX5_norm_122
        · replace h := stF c3 h
          refine lv_ldc2 (v := -9223372036854775808) hx hb F.ow (F.ts _ kc_5_138) dX5_norm_109 ?_
          refine lv_goto (tgt := 122) hx hb dX5_norm_112 (by decide) ?_
          obtain rfl := Option.some.inj h
          exact hE H locs _ ls hw dX5_norm_122
      · replace h := stT c2 h
        refine lv_aload_n hx hb dX5_norm_75 rfl (lv_at hl 0 rfl) ?_
        refine gf_5_40 F hw dX5_norm_76 ?_
        refine lv_iconst (v := 0) hx hb dX5_norm_79 (by decide) ?_
        obtain ⟨g5, h⟩ := stG h
        refine al_m10 F hw g5 dX5_norm_80 ?_
        refine lv_ldc2 (v := -9223372036854775808) hx hb F.ow (F.ts _ kc_5_138) dX5_norm_81 ?_
        refine W.lcmp hx hb dX5_norm_84 ?_
        refine lv_if_ne (tgt := 102) hx hb dX5_norm_85 (by decide) (fun c6 => ?_) (fun c6 => ?_)
        · replace h := stF c6 h
          refine lv_aload_n hx hb dX5_norm_102 rfl (lv_at hl 0 rfl) ?_
          refine gf_5_150 F hw dX5_norm_103 ?_
          refine lv_if_eq (tgt := 115) hx hb dX5_norm_106 (by decide) (fun c7 => ?_) (fun c7 => ?_)
          · replace h := stT c7 h
            refine lv_aload_n hx hb dX5_norm_115 rfl (lv_at hl 0 rfl) ?_
            refine gf_5_40 F hw dX5_norm_116 ?_
            refine lv_iconst (v := 0) hx hb dX5_norm_119 (by decide) ?_
            obtain ⟨g8, h⟩ := stG h
            refine al_m10 F hw g8 dX5_norm_120 ?_
            refine lv_lneg hx hb dX5_norm_121 ?_
            obtain rfl := Option.some.inj h
            exact hE H locs _ ls hw dX5_norm_122
          · replace h := stF c7 h
            refine lv_ldc2 (v := -9223372036854775808) hx hb F.ow (F.ts _ kc_5_138) dX5_norm_109 ?_
            refine lv_goto (tgt := 122) hx hb dX5_norm_112 (by decide) ?_
            obtain rfl := Option.some.inj h
            exact hE H locs _ ls hw dX5_norm_122
        · replace h := stT c6 h
          refine lv_aload_n hx hb dX5_norm_88 rfl (lv_at hl 0 rfl) ?_
          refine lv_iconst (v := 0) hx hb dX5_norm_89 (by decide) ?_
          refine pf_5_147 F hw dX5_norm_90 (fun H locs hw => ?_)
          refine lv_aload_n hx hb dX5_norm_93 rfl (lv_at hl 0 rfl) ?_
          refine lv_iconst (v := 4) hx hb dX5_norm_94 (by decide) ?_
          refine lv_aload_n hx hb dX5_norm_95 rfl (lv_at hl 0 rfl) ?_
          refine gf_5_66 F hw dX5_norm_96 ?_
          obtain ⟨z9, hz9, h⟩ := stB h
          refine ctV (av := [.int 4, .int ye]) (st0 := ([] : List Value)) (st1 := ([] : List Value)) F hw hA (k_X5_wrong hz9) kl_5_161 kd_X5_wrong rfl ⟨by decide, by decide⟩ 0 rfl rfl hl.1 rfl (Nat.le_of_ble_eq_true rfl) dX5_norm_99 rfl (fun H locs hw => ?_)
          refine lv_aload_n hx hb dX5_norm_102 rfl (lv_at hl 0 rfl) ?_
          refine gf_5_150 F hw dX5_norm_103 ?_
          refine lv_if_eq (tgt := 115) hx hb dX5_norm_106 (by decide) (fun c10 => ?_) (fun c10 => ?_)
          · replace h := stT c10 h
            refine lv_aload_n hx hb dX5_norm_115 rfl (lv_at hl 0 rfl) ?_
            refine gf_5_40 F hw dX5_norm_116 ?_
            refine lv_iconst (v := 0) hx hb dX5_norm_119 (by decide) ?_
            obtain ⟨g11, h⟩ := stG h
            refine al_m10 F hw g11 dX5_norm_120 ?_
            refine lv_lneg hx hb dX5_norm_121 ?_
            obtain rfl := Option.some.inj h
            exact hE H locs _ ls hw dX5_norm_122
          · replace h := stF c10 h
            refine lv_ldc2 (v := -9223372036854775808) hx hb F.ow (F.ts _ kc_5_138) dX5_norm_109 ?_
            refine lv_goto (tgt := 122) hx hb dX5_norm_112 (by decide) ?_
            obtain rfl := Option.some.inj h
            exact hE H locs _ ls hw dX5_norm_122
    · replace h := stF c1 h
      refine lv_aload_n hx hb dX5_norm_31 rfl (lv_at hl 0 rfl) ?_
      refine gf_5_150 F hw dX5_norm_32 ?_
      refine lv_if_ne (tgt := 68) hx hb dX5_norm_35 (by decide) (fun c12 => ?_) (fun c12 => ?_)
      · replace h := stF c12 h
        refine lv_aload_n hx hb dX5_norm_68 rfl (lv_at hl 0 rfl) ?_
        refine gf_5_150 F hw dX5_norm_69 ?_
        refine lv_if_ne (tgt := 102) hx hb dX5_norm_72 (by decide) (fun c13 => ?_) (fun c13 => ?_)
        · replace h := stF c13 h
          refine lv_aload_n hx hb dX5_norm_102 rfl (lv_at hl 0 rfl) ?_
          refine gf_5_150 F hw dX5_norm_103 ?_
          refine lv_if_eq (tgt := 115) hx hb dX5_norm_106 (by decide) (fun c14 => ?_) (fun c14 => ?_)
          · replace h := stT c14 h
            refine lv_aload_n hx hb dX5_norm_115 rfl (lv_at hl 0 rfl) ?_
            refine gf_5_40 F hw dX5_norm_116 ?_
            refine lv_iconst (v := 0) hx hb dX5_norm_119 (by decide) ?_
            obtain ⟨g15, h⟩ := stG h
            refine al_m10 F hw g15 dX5_norm_120 ?_
            refine lv_lneg hx hb dX5_norm_121 ?_
            obtain rfl := Option.some.inj h
            exact hE H locs _ ls hw dX5_norm_122
          · replace h := stF c14 h
            refine lv_ldc2 (v := -9223372036854775808) hx hb F.ow (F.ts _ kc_5_138) dX5_norm_109 ?_
            refine lv_goto (tgt := 122) hx hb dX5_norm_112 (by decide) ?_
            obtain rfl := Option.some.inj h
            exact hE H locs _ ls hw dX5_norm_122
        · replace h := stT c13 h
          refine lv_aload_n hx hb dX5_norm_75 rfl (lv_at hl 0 rfl) ?_
          refine gf_5_40 F hw dX5_norm_76 ?_
          refine lv_iconst (v := 0) hx hb dX5_norm_79 (by decide) ?_
          obtain ⟨g16, h⟩ := stG h
          refine al_m10 F hw g16 dX5_norm_80 ?_
          refine lv_ldc2 (v := -9223372036854775808) hx hb F.ow (F.ts _ kc_5_138) dX5_norm_81 ?_
          refine W.lcmp hx hb dX5_norm_84 ?_
          refine lv_if_ne (tgt := 102) hx hb dX5_norm_85 (by decide) (fun c17 => ?_) (fun c17 => ?_)
          · replace h := stF c17 h
            refine lv_aload_n hx hb dX5_norm_102 rfl (lv_at hl 0 rfl) ?_
            refine gf_5_150 F hw dX5_norm_103 ?_
            refine lv_if_eq (tgt := 115) hx hb dX5_norm_106 (by decide) (fun c18 => ?_) (fun c18 => ?_)
            · replace h := stT c18 h
              refine lv_aload_n hx hb dX5_norm_115 rfl (lv_at hl 0 rfl) ?_
              refine gf_5_40 F hw dX5_norm_116 ?_
              refine lv_iconst (v := 0) hx hb dX5_norm_119 (by decide) ?_
              obtain ⟨g19, h⟩ := stG h
              refine al_m10 F hw g19 dX5_norm_120 ?_
              refine lv_lneg hx hb dX5_norm_121 ?_
              obtain rfl := Option.some.inj h
              exact hE H locs _ ls hw dX5_norm_122
            · replace h := stF c18 h
              refine lv_ldc2 (v := -9223372036854775808) hx hb F.ow (F.ts _ kc_5_138) dX5_norm_109 ?_
              refine lv_goto (tgt := 122) hx hb dX5_norm_112 (by decide) ?_
              obtain rfl := Option.some.inj h
              exact hE H locs _ ls hw dX5_norm_122
          · replace h := stT c17 h
            refine lv_aload_n hx hb dX5_norm_88 rfl (lv_at hl 0 rfl) ?_
            refine lv_iconst (v := 0) hx hb dX5_norm_89 (by decide) ?_
            refine pf_5_147 F hw dX5_norm_90 (fun H locs hw => ?_)
            refine lv_aload_n hx hb dX5_norm_93 rfl (lv_at hl 0 rfl) ?_
            refine lv_iconst (v := 4) hx hb dX5_norm_94 (by decide) ?_
            refine lv_aload_n hx hb dX5_norm_95 rfl (lv_at hl 0 rfl) ?_
            refine gf_5_66 F hw dX5_norm_96 ?_
            obtain ⟨z20, hz20, h⟩ := stB h
            refine ctV (av := [.int 4, .int ye]) (st0 := ([] : List Value)) (st1 := ([] : List Value)) F hw hA (k_X5_wrong hz20) kl_5_161 kd_X5_wrong rfl ⟨by decide, by decide⟩ 0 rfl rfl hl.1 rfl (Nat.le_of_ble_eq_true rfl) dX5_norm_99 rfl (fun H locs hw => ?_)
            refine lv_aload_n hx hb dX5_norm_102 rfl (lv_at hl 0 rfl) ?_
            refine gf_5_150 F hw dX5_norm_103 ?_
            refine lv_if_eq (tgt := 115) hx hb dX5_norm_106 (by decide) (fun c21 => ?_) (fun c21 => ?_)
            · replace h := stT c21 h
              refine lv_aload_n hx hb dX5_norm_115 rfl (lv_at hl 0 rfl) ?_
              refine gf_5_40 F hw dX5_norm_116 ?_
              refine lv_iconst (v := 0) hx hb dX5_norm_119 (by decide) ?_
              obtain ⟨g22, h⟩ := stG h
              refine al_m10 F hw g22 dX5_norm_120 ?_
              refine lv_lneg hx hb dX5_norm_121 ?_
              obtain rfl := Option.some.inj h
              exact hE H locs _ ls hw dX5_norm_122
            · replace h := stF c21 h
              refine lv_ldc2 (v := -9223372036854775808) hx hb F.ow (F.ts _ kc_5_138) dX5_norm_109 ?_
              refine lv_goto (tgt := 122) hx hb dX5_norm_112 (by decide) ?_
              obtain rfl := Option.some.inj h
              exact hE H locs _ ls hw dX5_norm_122
      · replace h := stT c12 h
        refine lv_aload_n hx hb dX5_norm_38 rfl (lv_at hl 0 rfl) ?_
        refine lv_iconst (v := 0) hx hb dX5_norm_39 (by decide) ?_
        refine pf_5_147 F hw dX5_norm_40 (fun H locs hw => ?_)
        refine lv_aload_n hx hb dX5_norm_43 rfl (lv_at hl 0 rfl) ?_
        refine lv_iconst (v := 5) hx hb dX5_norm_44 (by decide) ?_
        refine lv_iload_n hx hb dX5_norm_45 rfl (lv_at hl 2 rfl) ?_
        obtain ⟨z23, hz23, h⟩ := stB h
        refine ctV (av := [.int 5, .int v2]) (st0 := ([] : List Value)) (st1 := ([] : List Value)) F hw hA (k_X5_opens hz23) kl_5_205 kd_X5_opens rfl ⟨by decide, by decide⟩ 0 rfl rfl hl.1 rfl (Nat.le_of_ble_eq_true rfl) dX5_norm_46 rfl (fun H locs hw => ?_)
        refine lv_aload_n hx hb dX5_norm_49 rfl (lv_at hl 0 rfl) ?_
        refine lv_iconst (v := 1) hx hb dX5_norm_50 (by decide) ?_
        refine lv_iload_n hx hb dX5_norm_51 rfl (lv_at hl 1 rfl) ?_
        refine lv_iload_n hx hb dX5_norm_52 rfl (lv_at hl 2 rfl) ?_
        obtain ⟨z24, hz24, h⟩ := stB h
        refine ctV (av := [.int 1, .int v1, .int v2]) (st0 := ([] : List Value)) (st1 := ([] : List Value)) F hw hA (k_X5_turns hz24) kl_5_208 kd_X5_turns rfl ⟨by decide, by decide⟩ 0 rfl rfl hl.1 rfl (Nat.le_of_ble_eq_true rfl) dX5_norm_53 rfl (fun H locs hw => ?_)
        refine lv_aload_n hx hb dX5_norm_56 rfl (lv_at hl 0 rfl) ?_
        refine lv_iconst (v := 0) hx hb dX5_norm_57 (by decide) ?_
        refine lv_iconst (v := 1) hx hb dX5_norm_58 (by decide) ?_
        obtain ⟨z25, hz25, h⟩ := stB h
        refine ctV (av := [.int 0, .int 1]) (st0 := ([] : List Value)) (st1 := ([] : List Value)) F hw hA (k_X5_multiplies hz25) kl_5_200 kd_X5_multiplies rfl ⟨by decide, by decide⟩ 0 rfl rfl hl.1 rfl (Nat.le_of_ble_eq_true rfl) dX5_norm_59 rfl (fun H locs hw => ?_)
        refine lv_iinc (v := (v2 + 1)) (lv' := [(2, .int (v2 + 1)), (0, .ref (q 0)), (1, .int v1)]) hx hb dX5_norm_62 hl (k := 2) rfl rfl (by decide) rfl (fun ls hl => ?_)
        refine lv_goto (tgt := 23) hx hb dX5_norm_65 (by decide) ?_
        exact ih _ _ _ _ _ _ _ _ _ _ z h hE H locs ls hw (lv_sub hl [1, 2, 0] rfl)
def f_X5_norm (yp : Int32) (ye : Int32) (bPo : Nat → Int32) (bTb : Nat → Int32) (wSh : Nat → Int64) (bOs : Nat → Int32) (bOn : Nat → Int32) (yop : Int32) (bSo : Nat → Int32) (bNu : Nat → Int32) (ytr : Int32) (yiw : Int32) (wMa : Nat → Int64) (wPr : Nat → Int64) (v1 : Int32) : Option (Int64 × (Nat → Int32) × (Nat → Int32) × Int32 × (Nat → Int32) × (Nat → Int32) × Int32 × Int32 × (Nat → Int64) × (Nat → Int64)) :=
  (f_X5_isShelf v1).bind fun z1 =>
  if z1 = 0 then
  some ((-9223372036854775808), bOs, bOn, yop, bSo, bNu, ytr, yiw, wMa, wPr)
  else
  (f_X5_begins_ yop yiw).bind fun z3 =>
  (f_X5_becomesWhole ye wMa 0 1).bind fun z4 =>
  f_X5_norm_L23 yp ye bPo bTb wSh v1 FU bOs bOn z3.1 bSo bNu ytr z3.2 z4 wPr 0
set_option maxHeartbeats 4000000 in
set_option maxRecDepth 100000 in
theorem k_X5_norm {l : Launch} {G : GG} {q : Nat → Nat} {fr : va_W}  {yp : Int32} {ye : Int32} {yg : Int32} {bPo : Nat → Int32} {bTb : Nat → Int32} {wSh : Nat → Int64} {wTe : Nat → Int64} {wNx : Nat → Int64} {bOs : Nat → Int32} {bOn : Nat → Int32} {yop : Int32} {bSo : Nat → Int32} {bNu : Nat → Int32} {ytr : Int32} {yiw : Int32} {wMa : Nat → Int64} {wPr : Nat → Int64} {bTp : Nat → Int32} {yln : Int32} {ypl : Int32} {yfa : Int32} {wLi : Nat → Int64} {bSi : Nat → Int32} {yhp : Int32} {yhe : Int32} {yhg : Int32} {wHs : Nat → Int64} {yhi : Int32} {v1 : Int32} {z : Int64 × (Nat → Int32) × (Nat → Int32) × Int32 × (Nat → Int32) × (Nat → Int32) × Int32 × Int32 × (Nat → Int64) × (Nat → Int64)}  (h : f_X5_norm yp ye bPo bTb wSh bOs bOn yop bSo bNu ytr yiw wMa wPr v1 = some z) : Ct l G yX5_norm cX5_norm 3 (some .long) 6 159 [.ref (q 0), .int v1] (mW G q yp ye yg bPo bTb wSh wTe wNx bOs bOn yop bSo bNu ytr yiw wMa wPr bTp yln ypl yfa wLi bSi yhp yhe yhg wHs yhi ++ fr) (some (.long z.1)) (mW G q yp ye yg bPo bTb wSh wTe wNx z.2.1 z.2.2.1 z.2.2.2.1 z.2.2.2.2.1 z.2.2.2.2.2.1 z.2.2.2.2.2.2.1 z.2.2.2.2.2.2.2.1 z.2.2.2.2.2.2.2.2.1 z.2.2.2.2.2.2.2.2.2 bTp yln ypl yfa wLi bSi yhp yhe yhg wHs yhi ++ fr) := by
  refine Ct.of (by decide +kernel) (Nat.le_of_ble_eq_true rfl) trivial ?_
  intro p e s m args below meth c Q A ls F hw hA hE hl
  have hx := F.x
  have hb := F.b
  unfold f_X5_norm at h
  obtain ⟨H, hH⟩ : ∃ H, H = s.heap := ⟨_, rfl⟩
  obtain ⟨locs, hlo⟩ : ∃ locs : List Loc, locs = [] := ⟨_, rfl⟩
  rw [← hH, ← hlo] at hw ⊢
  have hl : lv_has ls 3 [(0, .ref (q 0)), (1, .int v1)] := hl
  refine lv_iload_n hx hb dX5_norm_0 rfl (lv_at hl 1 rfl) ?_
  obtain ⟨z1, hz1, h⟩ := stB h
  refine ctS (av := [.int v1]) (st0 := ([] : List Value)) (st1 := ([.int z1] : List Value)) F hw hA (k_X5_isShelf hz1) kl_5_174 kd_X5_isShelf rfl ⟨by decide, by decide⟩ hl.1 rfl (Nat.le_of_ble_eq_true rfl) dX5_norm_1 rfl (fun H locs hw => ?_)
  refine lv_if_ne (tgt := 11) hx hb dX5_norm_4 (by decide) (fun c2 => ?_) (fun c2 => ?_)
  · replace h := stF c2 h
    refine lv_aload_n hx hb dX5_norm_11 rfl (lv_at hl 0 rfl) ?_
    obtain ⟨z3, hz3, h⟩ := stB h
    refine ctV (av := []) (st0 := ([] : List Value)) (st1 := ([] : List Value)) F hw hA (k_X5_begins_ hz3) kl_5_177 kd_X5_begins_ rfl ⟨by decide, by decide⟩ 0 rfl rfl hl.1 rfl (Nat.le_of_ble_eq_true rfl) dX5_norm_12 rfl (fun H locs hw => ?_)
    refine lv_aload_n hx hb dX5_norm_15 rfl (lv_at hl 0 rfl) ?_
    refine lv_iconst (v := 0) hx hb dX5_norm_16 (by decide) ?_
    refine lv_lconst (v := 1) hx hb dX5_norm_17 (by decide) ?_
    obtain ⟨z4, hz4, h⟩ := stB h
    refine ctV (av := [.int 0, .long 1]) (st0 := ([] : List Value)) (st1 := ([] : List Value)) F hw hA (k_X5_becomesWhole hz4) kl_5_179 kd_X5_becomesWhole rfl ⟨by decide, by decide⟩ 0 rfl rfl hl.1 rfl (Nat.le_of_ble_eq_true rfl) dX5_norm_18 rfl (fun H locs hw => ?_)
    refine lv_iconst (v := 0) hx hb dX5_norm_21 (by decide) ?_
    refine lv_istore_n (lv' := [(2, .int 0), (0, .ref (q 0)), (1, .int v1)]) hx hb dX5_norm_22 rfl hl (by decide) rfl (fun ls hl => ?_)
    exact w_X5_norm_L23 F hA  FU _ _ _ _ _ _ _ _ _ _ z h hE H locs ls hw (lv_sub hl [1, 2, 0] rfl)
  · replace h := stT c2 h
    refine lv_ldc2 (v := -9223372036854775808) hx hb F.ow (F.ts _ kc_5_138) dX5_norm_7 ?_
    obtain rfl := Option.some.inj h
    exact hE H locs _ ls hw dX5_norm_10
end
theorem dX5_trace_0 : decode cX5_trace 0 = .ok (.iload_n 1, 1) := by decide +kernel
theorem dX5_trace_1 : decode cX5_trace 1 = .ok (.invokestatic 174, 3) := by decide +kernel
theorem dX5_trace_4 : decode cX5_trace 4 = .ok (.ifCond .ne 7, 3) := by decide +kernel
theorem dX5_trace_7 : decode cX5_trace 7 = .ok (.ldc2_w 138, 3) := by decide +kernel
theorem dX5_trace_10 : decode cX5_trace 10 = .ok (.lreturn, 1) := by decide +kernel
theorem dX5_trace_11 : decode cX5_trace 11 = .ok (.aload_n 0, 1) := by decide +kernel
theorem dX5_trace_12 : decode cX5_trace 12 = .ok (.invokevirtual 177, 3) := by decide +kernel
theorem dX5_trace_15 : decode cX5_trace 15 = .ok (.lconst 0, 1) := by decide +kernel
theorem dX5_trace_16 : decode cX5_trace 16 = .ok (.lstore_n 2, 1) := by decide +kernel
theorem dX5_trace_17 : decode cX5_trace 17 = .ok (.iconst 0, 1) := by decide +kernel
theorem dX5_trace_18 : decode cX5_trace 18 = .ok (.istore 4, 2) := by decide +kernel
theorem dX5_trace_20 : decode cX5_trace 20 = .ok (.iload 4, 2) := by decide +kernel
theorem dX5_trace_22 : decode cX5_trace 22 = .ok (.aload_n 0, 1) := by decide +kernel
theorem dX5_trace_23 : decode cX5_trace 23 = .ok (.getfield 66, 3) := by decide +kernel
theorem dX5_trace_26 : decode cX5_trace 26 = .ok (.if_icmp .ge 51, 3) := by decide +kernel
theorem dX5_trace_29 : decode cX5_trace 29 = .ok (.aload_n 0, 1) := by decide +kernel
theorem dX5_trace_30 : decode cX5_trace 30 = .ok (.getfield 150, 3) := by decide +kernel
theorem dX5_trace_33 : decode cX5_trace 33 = .ok (.ifCond .ne 44, 3) := by decide +kernel
theorem dX5_trace_36 : decode cX5_trace 36 = .ok (.aload_n 0, 1) := by decide +kernel
theorem dX5_trace_37 : decode cX5_trace 37 = .ok (.getfield 18, 3) := by decide +kernel
theorem dX5_trace_40 : decode cX5_trace 40 = .ok (.bipush 12, 2) := by decide +kernel
theorem dX5_trace_42 : decode cX5_trace 42 = .ok (.iload_n 1, 1) := by decide +kernel
theorem dX5_trace_43 : decode cX5_trace 43 = .ok (.imul, 1) := by decide +kernel
theorem dX5_trace_44 : decode cX5_trace 44 = .ok (.iload 4, 2) := by decide +kernel
theorem dX5_trace_46 : decode cX5_trace 46 = .ok (.iadd, 1) := by decide +kernel
theorem dX5_trace_47 : decode cX5_trace 47 = .ok (.laload, 1) := by decide +kernel
theorem dX5_trace_48 : decode cX5_trace 48 = .ok (.lstore 5, 2) := by decide +kernel
theorem dX5_trace_50 : decode cX5_trace 50 = .ok (.lload_n 2, 1) := by decide +kernel
theorem dX5_trace_51 : decode cX5_trace 51 = .ok (.lload 5, 2) := by decide +kernel
theorem dX5_trace_53 : decode cX5_trace 53 = .ok (.invokestatic 164, 3) := by decide +kernel
theorem dX5_trace_56 : decode cX5_trace 56 = .ok (.ifCond .eq 10, 3) := by decide +kernel
theorem dX5_trace_59 : decode cX5_trace 59 = .ok (.aload_n 0, 1) := by decide +kernel
theorem dX5_trace_60 : decode cX5_trace 60 = .ok (.iconst 4, 1) := by decide +kernel
theorem dX5_trace_61 : decode cX5_trace 61 = .ok (.iload 4, 2) := by decide +kernel
theorem dX5_trace_63 : decode cX5_trace 63 = .ok (.invokevirtual 161, 3) := by decide +kernel
theorem dX5_trace_66 : decode cX5_trace 66 = .ok (.lload_n 2, 1) := by decide +kernel
theorem dX5_trace_67 : decode cX5_trace 67 = .ok (.lload 5, 2) := by decide +kernel
theorem dX5_trace_69 : decode cX5_trace 69 = .ok (.ladd, 1) := by decide +kernel
theorem dX5_trace_70 : decode cX5_trace 70 = .ok (.lstore_n 2, 1) := by decide +kernel
theorem dX5_trace_71 : decode cX5_trace 71 = .ok (.iinc 4 1, 3) := by decide +kernel
theorem dX5_trace_74 : decode cX5_trace 74 = .ok (.goto (-54), 3) := by decide +kernel
theorem dX5_trace_77 : decode cX5_trace 77 = .ok (.aload_n 0, 1) := by decide +kernel
theorem dX5_trace_78 : decode cX5_trace 78 = .ok (.getfield 150, 3) := by decide +kernel
theorem dX5_trace_81 : decode cX5_trace 81 = .ok (.ifCond .ne 20, 3) := by decide +kernel
theorem dX5_trace_84 : decode cX5_trace 84 = .ok (.lload_n 2, 1) := by decide +kernel
theorem dX5_trace_85 : decode cX5_trace 85 = .ok (.ldc2_w 138, 3) := by decide +kernel
theorem dX5_trace_88 : decode cX5_trace 88 = .ok (.lcmp, 1) := by decide +kernel
theorem dX5_trace_89 : decode cX5_trace 89 = .ok (.ifCond .ne 12, 3) := by decide +kernel
theorem dX5_trace_92 : decode cX5_trace 92 = .ok (.aload_n 0, 1) := by decide +kernel
theorem dX5_trace_93 : decode cX5_trace 93 = .ok (.iconst 4, 1) := by decide +kernel
theorem dX5_trace_94 : decode cX5_trace 94 = .ok (.aload_n 0, 1) := by decide +kernel
theorem dX5_trace_95 : decode cX5_trace 95 = .ok (.getfield 66, 3) := by decide +kernel
theorem dX5_trace_98 : decode cX5_trace 98 = .ok (.invokevirtual 161, 3) := by decide +kernel
theorem dX5_trace_101 : decode cX5_trace 101 = .ok (.aload_n 0, 1) := by decide +kernel
theorem dX5_trace_102 : decode cX5_trace 102 = .ok (.getfield 150, 3) := by decide +kernel
theorem dX5_trace_105 : decode cX5_trace 105 = .ok (.ifCond .eq 9, 3) := by decide +kernel
theorem dX5_trace_108 : decode cX5_trace 108 = .ok (.ldc2_w 138, 3) := by decide +kernel
theorem dX5_trace_111 : decode cX5_trace 111 = .ok (.goto 5, 3) := by decide +kernel
theorem dX5_trace_114 : decode cX5_trace 114 = .ok (.lload_n 2, 1) := by decide +kernel
theorem dX5_trace_115 : decode cX5_trace 115 = .ok (.lneg, 1) := by decide +kernel
theorem dX5_trace_116 : decode cX5_trace 116 = .ok (.lreturn, 1) := by decide +kernel
section
variable {p : Program} {l : Launch} {e : Env} {s : State} {m : MethodId} {args : Array Value} {below : List Frame} {meth : Method} {c : Code} {Q : State → Prop} {G : GG} {A : Nat → Prop} {q : Nat → Nat} {fr : va_W}
def f_X5_trace_L20 (ye : Int32) (wSh : Nat → Int64) (bOs : Nat → Int32) (bOn : Nat → Int32) (v1 : Int32) : Nat → Int32 → (Nat → Int32) → (Nat → Int32) → Int32 → Int32 → Int64 → Int32 → Option (Int64 × Int32 × (Nat → Int32) × (Nat → Int32) × Int32 × Int32)
  | 0, _, _, _, _, _, _, _ => none
  | fu + 1, yop, bSo, bNu, ytr, yiw, v2, v4 =>
    if ye ≤ v4 then
    if yiw = 0 then
    if (lg_cmp v2 (-9223372036854775808)) = 0 then
    (f_X5_wrong bOs bOn yop bSo bNu ytr yiw 4 ye).bind fun z6 =>
    if z6.2.2.2 = 0 then
    some ((-v2), yop, z6.1, z6.2.1, z6.2.2.1, z6.2.2.2)
    else
    some ((-9223372036854775808), yop, z6.1, z6.2.1, z6.2.2.1, z6.2.2.2)
    else
    if yiw = 0 then
    some ((-v2), yop, bSo, bNu, ytr, yiw)
    else
    some ((-9223372036854775808), yop, bSo, bNu, ytr, yiw)
    else
    if yiw = 0 then
    some ((-v2), yop, bSo, bNu, ytr, yiw)
    else
    some ((-9223372036854775808), yop, bSo, bNu, ytr, yiw)
    else
    if yiw = 0 then
    if inb ((12 * v1) + v4) 48 then
    (f_X5_isSumOver v2 (wSh ((12 * v1) + v4).toNatClampNeg)).bind fun z16 =>
    if z16 = 0 then
    f_X5_trace_L20 ye wSh bOs bOn v1 fu yop bSo bNu ytr yiw (v2 + (wSh ((12 * v1) + v4).toNatClampNeg)) (v4 + 1)
    else
    (f_X5_wrong bOs bOn yop bSo bNu ytr yiw 4 v4).bind fun z18 =>
    f_X5_trace_L20 ye wSh bOs bOn v1 fu yop z18.1 z18.2.1 z18.2.2.1 z18.2.2.2 (v2 + (wSh ((12 * v1) + v4).toNatClampNeg)) (v4 + 1)
    else none
    else
    if yiw = 0 then
    if (lg_cmp v2 (-9223372036854775808)) = 0 then
    (f_X5_wrong bOs bOn yop bSo bNu ytr yiw 4 ye).bind fun z13 =>
    if z13.2.2.2 = 0 then
    some ((-v2), yop, z13.1, z13.2.1, z13.2.2.1, z13.2.2.2)
    else
    some ((-9223372036854775808), yop, z13.1, z13.2.1, z13.2.2.1, z13.2.2.2)
    else
    if yiw = 0 then
    some ((-v2), yop, bSo, bNu, ytr, yiw)
    else
    some ((-9223372036854775808), yop, bSo, bNu, ytr, yiw)
    else
    if yiw = 0 then
    some ((-v2), yop, bSo, bNu, ytr, yiw)
    else
    some ((-9223372036854775808), yop, bSo, bNu, ytr, yiw)
set_option maxHeartbeats 4000000 in
set_option maxRecDepth 100000 in
theorem w_X5_trace_L20  {yp : Int32} {ye : Int32} {yg : Int32} {bPo : Nat → Int32} {bTb : Nat → Int32} {wSh : Nat → Int64} {wTe : Nat → Int64} {wNx : Nat → Int64} {bOs : Nat → Int32} {bOn : Nat → Int32} {wMa : Nat → Int64} {wPr : Nat → Int64} {bTp : Nat → Int32} {yln : Int32} {ypl : Int32} {yfa : Int32} {wLi : Nat → Int64} {bSi : Nat → Int32} {yhp : Int32} {yhe : Int32} {yhg : Int32} {wHs : Nat → Int64} {yhi : Int32} {v1 : Int32}  (F : Fx p s m args meth c cX5_trace 7 RX5 (some .long)) (hA : ∀ q, s.heap.size ≤ q → A q)   : ∀ (fu : Nat) (yop : Int32) (bSo : Nat → Int32) (bNu : Nat → Int32) (ytr : Int32) (yiw : Int32) (v2 : Int64) (v4 : Int32) (z : Int64 × Int32 × (Nat → Int32) × (Nat → Int32) × Int32 × Int32), f_X5_trace_L20 ye wSh bOs bOn v1 fu yop bSo bNu ytr yiw v2 v4 = some z → Ends p l e (rmOf 2 102) s m args below meth c Q cX5_trace G A (some .long) (some (.long z.1)) (mW G q yp ye yg bPo bTb wSh wTe wNx bOs bOn z.2.1 z.2.2.1 z.2.2.2.1 z.2.2.2.2.1 z.2.2.2.2.2 wMa wPr bTp yln ypl yfa wLi bSi yhp yhe yhg wHs yhi ++ fr) → ∀ (H : Heap) (locs : List Loc) (ls : Array Slot), Wd G s A (mW G q yp ye yg bPo bTb wSh wTe wNx bOs bOn yop bSo bNu ytr yiw wMa wPr bTp yln ypl yfa wLi bSi yhp yhe yhg wHs yhi ++ fr) H locs → lv_has ls 7 [(0, .ref (q 0)), (1, .int v1), (2, .long v2), (4, .int v4)] → W p l e (rmOf 2 102) s m args below meth c H locs 0 0 Q (F0 m 20 ls []) := by
  have hx := F.x
  have hb := F.b
  intro fu
  induction fu with
  | zero =>
    intro yop bSo bNu ytr yiw v2 v4 z h
    cases (h : none = some z)
  | succ fu ih =>
    intro yop bSo bNu ytr yiw v2 v4 z h hE H locs ls hw hl
    rw [f_X5_trace_L20] at h
    refine lv_iload hx hb dX5_trace_20 (lv_at hl 3 rfl) ?_
    refine lv_aload_n hx hb dX5_trace_22 rfl (lv_at hl 0 rfl) ?_
    refine gf_5_66 F hw dX5_trace_23 ?_
    refine lv_icmp_ge (tgt := 77) hx hb dX5_trace_26 (by decide) (fun c1 => ?_) (fun c1 => ?_)
    · replace h := stT c1 h
      refine lv_aload_n hx hb dX5_trace_77 rfl (lv_at hl 0 rfl) ?_
      refine gf_5_150 F hw dX5_trace_78 ?_
      refine lv_if_ne (tgt := 101) hx hb dX5_trace_81 (by decide) (fun c2 => ?_) (fun c2 => ?_)
      · replace h := stF c2 h
        refine lv_aload_n hx hb dX5_trace_101 rfl (lv_at hl 0 rfl) ?_
        refine gf_5_150 F hw dX5_trace_102 ?_
        refine lv_if_eq (tgt := 114) hx hb dX5_trace_105 (by decide) (fun c3 => ?_) (fun c3 => ?_)
        · replace h := stT c3 h
          refine lv_lload_n hx hb dX5_trace_114 rfl (lv_at hl 2 rfl) ?_
          refine lv_lneg hx hb dX5_trace_115 ?_
          obtain rfl := Option.some.inj h
          exact hE H locs _ ls hw dX5_trace_116
        · replace h := stF c3 h
          refine lv_ldc2 (v := -9223372036854775808) hx hb F.ow (F.ts _ kc_5_138) dX5_trace_108 ?_
          refine lv_goto (tgt := 116) hx hb dX5_trace_111 (by decide) ?_
          obtain rfl := Option.some.inj h
          exact hE H locs _ ls hw dX5_trace_116
      · replace h := stT c2 h
        refine lv_lload_n hx hb dX5_trace_84 rfl (lv_at hl 2 rfl) ?_
        refine lv_ldc2 (v := -9223372036854775808) hx hb F.ow (F.ts _ kc_5_138) dX5_trace_85 ?_
        refine W.lcmp hx hb dX5_trace_88 ?_
        refine lv_if_ne (tgt := 101) hx hb dX5_trace_89 (by decide) (fun c4 => ?_) (fun c4 => ?_)
        · replace h := stF c4 h
          refine lv_aload_n hx hb dX5_trace_101 rfl (lv_at hl 0 rfl) ?_
          refine gf_5_150 F hw dX5_trace_102 ?_
          refine lv_if_eq (tgt := 114) hx hb dX5_trace_105 (by decide) (fun c5 => ?_) (fun c5 => ?_)
          · replace h := stT c5 h
            refine lv_lload_n hx hb dX5_trace_114 rfl (lv_at hl 2 rfl) ?_
            refine lv_lneg hx hb dX5_trace_115 ?_
            obtain rfl := Option.some.inj h
            exact hE H locs _ ls hw dX5_trace_116
          · replace h := stF c5 h
            refine lv_ldc2 (v := -9223372036854775808) hx hb F.ow (F.ts _ kc_5_138) dX5_trace_108 ?_
            refine lv_goto (tgt := 116) hx hb dX5_trace_111 (by decide) ?_
            obtain rfl := Option.some.inj h
            exact hE H locs _ ls hw dX5_trace_116
        · replace h := stT c4 h
          refine lv_aload_n hx hb dX5_trace_92 rfl (lv_at hl 0 rfl) ?_
          refine lv_iconst (v := 4) hx hb dX5_trace_93 (by decide) ?_
          refine lv_aload_n hx hb dX5_trace_94 rfl (lv_at hl 0 rfl) ?_
          refine gf_5_66 F hw dX5_trace_95 ?_
          obtain ⟨z6, hz6, h⟩ := stB h
          refine ctV (av := [.int 4, .int ye]) (st0 := ([] : List Value)) (st1 := ([] : List Value)) F hw hA (k_X5_wrong hz6) kl_5_161 kd_X5_wrong rfl ⟨by decide, by decide⟩ 0 rfl rfl hl.1 rfl (Nat.le_of_ble_eq_true rfl) dX5_trace_98 rfl (fun H locs hw => ?_)
          refine lv_aload_n hx hb dX5_trace_101 rfl (lv_at hl 0 rfl) ?_
          refine gf_5_150 F hw dX5_trace_102 ?_
          refine lv_if_eq (tgt := 114) hx hb dX5_trace_105 (by decide) (fun c7 => ?_) (fun c7 => ?_)
          · replace h := stT c7 h
            refine lv_lload_n hx hb dX5_trace_114 rfl (lv_at hl 2 rfl) ?_
            refine lv_lneg hx hb dX5_trace_115 ?_
            obtain rfl := Option.some.inj h
            exact hE H locs _ ls hw dX5_trace_116
          · replace h := stF c7 h
            refine lv_ldc2 (v := -9223372036854775808) hx hb F.ow (F.ts _ kc_5_138) dX5_trace_108 ?_
            refine lv_goto (tgt := 116) hx hb dX5_trace_111 (by decide) ?_
            obtain rfl := Option.some.inj h
            exact hE H locs _ ls hw dX5_trace_116
    · replace h := stF c1 h
      refine lv_aload_n hx hb dX5_trace_29 rfl (lv_at hl 0 rfl) ?_
      refine gf_5_150 F hw dX5_trace_30 ?_
      refine lv_if_ne (tgt := 77) hx hb dX5_trace_33 (by decide) (fun c8 => ?_) (fun c8 => ?_)
      · replace h := stF c8 h
        refine lv_aload_n hx hb dX5_trace_77 rfl (lv_at hl 0 rfl) ?_
        refine gf_5_150 F hw dX5_trace_78 ?_
        refine lv_if_ne (tgt := 101) hx hb dX5_trace_81 (by decide) (fun c9 => ?_) (fun c9 => ?_)
        · replace h := stF c9 h
          refine lv_aload_n hx hb dX5_trace_101 rfl (lv_at hl 0 rfl) ?_
          refine gf_5_150 F hw dX5_trace_102 ?_
          refine lv_if_eq (tgt := 114) hx hb dX5_trace_105 (by decide) (fun c10 => ?_) (fun c10 => ?_)
          · replace h := stT c10 h
            refine lv_lload_n hx hb dX5_trace_114 rfl (lv_at hl 2 rfl) ?_
            refine lv_lneg hx hb dX5_trace_115 ?_
            obtain rfl := Option.some.inj h
            exact hE H locs _ ls hw dX5_trace_116
          · replace h := stF c10 h
            refine lv_ldc2 (v := -9223372036854775808) hx hb F.ow (F.ts _ kc_5_138) dX5_trace_108 ?_
            refine lv_goto (tgt := 116) hx hb dX5_trace_111 (by decide) ?_
            obtain rfl := Option.some.inj h
            exact hE H locs _ ls hw dX5_trace_116
        · replace h := stT c9 h
          refine lv_lload_n hx hb dX5_trace_84 rfl (lv_at hl 2 rfl) ?_
          refine lv_ldc2 (v := -9223372036854775808) hx hb F.ow (F.ts _ kc_5_138) dX5_trace_85 ?_
          refine W.lcmp hx hb dX5_trace_88 ?_
          refine lv_if_ne (tgt := 101) hx hb dX5_trace_89 (by decide) (fun c11 => ?_) (fun c11 => ?_)
          · replace h := stF c11 h
            refine lv_aload_n hx hb dX5_trace_101 rfl (lv_at hl 0 rfl) ?_
            refine gf_5_150 F hw dX5_trace_102 ?_
            refine lv_if_eq (tgt := 114) hx hb dX5_trace_105 (by decide) (fun c12 => ?_) (fun c12 => ?_)
            · replace h := stT c12 h
              refine lv_lload_n hx hb dX5_trace_114 rfl (lv_at hl 2 rfl) ?_
              refine lv_lneg hx hb dX5_trace_115 ?_
              obtain rfl := Option.some.inj h
              exact hE H locs _ ls hw dX5_trace_116
            · replace h := stF c12 h
              refine lv_ldc2 (v := -9223372036854775808) hx hb F.ow (F.ts _ kc_5_138) dX5_trace_108 ?_
              refine lv_goto (tgt := 116) hx hb dX5_trace_111 (by decide) ?_
              obtain rfl := Option.some.inj h
              exact hE H locs _ ls hw dX5_trace_116
          · replace h := stT c11 h
            refine lv_aload_n hx hb dX5_trace_92 rfl (lv_at hl 0 rfl) ?_
            refine lv_iconst (v := 4) hx hb dX5_trace_93 (by decide) ?_
            refine lv_aload_n hx hb dX5_trace_94 rfl (lv_at hl 0 rfl) ?_
            refine gf_5_66 F hw dX5_trace_95 ?_
            obtain ⟨z13, hz13, h⟩ := stB h
            refine ctV (av := [.int 4, .int ye]) (st0 := ([] : List Value)) (st1 := ([] : List Value)) F hw hA (k_X5_wrong hz13) kl_5_161 kd_X5_wrong rfl ⟨by decide, by decide⟩ 0 rfl rfl hl.1 rfl (Nat.le_of_ble_eq_true rfl) dX5_trace_98 rfl (fun H locs hw => ?_)
            refine lv_aload_n hx hb dX5_trace_101 rfl (lv_at hl 0 rfl) ?_
            refine gf_5_150 F hw dX5_trace_102 ?_
            refine lv_if_eq (tgt := 114) hx hb dX5_trace_105 (by decide) (fun c14 => ?_) (fun c14 => ?_)
            · replace h := stT c14 h
              refine lv_lload_n hx hb dX5_trace_114 rfl (lv_at hl 2 rfl) ?_
              refine lv_lneg hx hb dX5_trace_115 ?_
              obtain rfl := Option.some.inj h
              exact hE H locs _ ls hw dX5_trace_116
            · replace h := stF c14 h
              refine lv_ldc2 (v := -9223372036854775808) hx hb F.ow (F.ts _ kc_5_138) dX5_trace_108 ?_
              refine lv_goto (tgt := 116) hx hb dX5_trace_111 (by decide) ?_
              obtain rfl := Option.some.inj h
              exact hE H locs _ ls hw dX5_trace_116
      · replace h := stT c8 h
        refine lv_aload_n hx hb dX5_trace_36 rfl (lv_at hl 0 rfl) ?_
        refine gf_5_18 F hw dX5_trace_37 ?_
        refine lv_bipush (v := 12) hx hb dX5_trace_40 (by decide) ?_
        refine lv_iload_n hx hb dX5_trace_42 rfl (lv_at hl 1 rfl) ?_
        refine lv_imul hx hb dX5_trace_43 ?_
        refine lv_iload hx hb dX5_trace_44 (lv_at hl 3 rfl) ?_
        refine lv_iadd hx hb dX5_trace_46 ?_
        obtain ⟨g15, h⟩ := stG h
        refine al_m3 F hw g15 dX5_trace_47 ?_
        refine lv_lstore (lv' := [(5, .long (wSh ((12 * v1) + v4).toNatClampNeg)), (0, .ref (q 0)), (1, .int v1), (2, .long v2), (4, .int v4)]) hx hb dX5_trace_48 hl (by decide) rfl (fun ls hl => ?_)
        refine lv_lload_n hx hb dX5_trace_50 rfl (lv_at hl 3 rfl) ?_
        refine lv_lload hx hb dX5_trace_51 (lv_at hl 0 rfl) ?_
        obtain ⟨z16, hz16, h⟩ := stB h
        refine ctS (av := [.long v2, .long (wSh ((12 * v1) + v4).toNatClampNeg)]) (st0 := ([] : List Value)) (st1 := ([.int z16] : List Value)) F hw hA (k_X5_isSumOver hz16) kl_5_164 kd_X5_isSumOver rfl ⟨by decide, by decide⟩ hl.1 rfl (Nat.le_of_ble_eq_true rfl) dX5_trace_53 rfl (fun H locs hw => ?_)
        refine lv_if_eq (tgt := 66) hx hb dX5_trace_56 (by decide) (fun c17 => ?_) (fun c17 => ?_)
        · replace h := stT c17 h
          refine lv_lload_n hx hb dX5_trace_66 rfl (lv_at hl 3 rfl) ?_
          refine lv_lload hx hb dX5_trace_67 (lv_at hl 0 rfl) ?_
          refine lv_ladd hx hb dX5_trace_69 ?_
          refine lv_lstore_n (lv' := [(2, .long (v2 + (wSh ((12 * v1) + v4).toNatClampNeg))), (5, .long (wSh ((12 * v1) + v4).toNatClampNeg)), (0, .ref (q 0)), (1, .int v1), (4, .int v4)]) hx hb dX5_trace_70 rfl hl (by decide) rfl (fun ls hl => ?_)
          refine lv_iinc (v := (v4 + 1)) (lv' := [(4, .int (v4 + 1)), (2, .long (v2 + (wSh ((12 * v1) + v4).toNatClampNeg))), (5, .long (wSh ((12 * v1) + v4).toNatClampNeg)), (0, .ref (q 0)), (1, .int v1)]) hx hb dX5_trace_71 hl (k := 4) rfl rfl (by decide) rfl (fun ls hl => ?_)
          refine lv_goto (tgt := 20) hx hb dX5_trace_74 (by decide) ?_
          exact ih _ _ _ _ _ _ _ z h hE H locs ls hw (lv_sub hl [3, 4, 1, 0] rfl)
        · replace h := stF c17 h
          refine lv_aload_n hx hb dX5_trace_59 rfl (lv_at hl 1 rfl) ?_
          refine lv_iconst (v := 4) hx hb dX5_trace_60 (by decide) ?_
          refine lv_iload hx hb dX5_trace_61 (lv_at hl 4 rfl) ?_
          obtain ⟨z18, hz18, h⟩ := stB h
          refine ctV (av := [.int 4, .int v4]) (st0 := ([] : List Value)) (st1 := ([] : List Value)) F hw hA (k_X5_wrong hz18) kl_5_161 kd_X5_wrong rfl ⟨by decide, by decide⟩ 0 rfl rfl hl.1 rfl (Nat.le_of_ble_eq_true rfl) dX5_trace_63 rfl (fun H locs hw => ?_)
          refine lv_lload_n hx hb dX5_trace_66 rfl (lv_at hl 3 rfl) ?_
          refine lv_lload hx hb dX5_trace_67 (lv_at hl 0 rfl) ?_
          refine lv_ladd hx hb dX5_trace_69 ?_
          refine lv_lstore_n (lv' := [(2, .long (v2 + (wSh ((12 * v1) + v4).toNatClampNeg))), (5, .long (wSh ((12 * v1) + v4).toNatClampNeg)), (0, .ref (q 0)), (1, .int v1), (4, .int v4)]) hx hb dX5_trace_70 rfl hl (by decide) rfl (fun ls hl => ?_)
          refine lv_iinc (v := (v4 + 1)) (lv' := [(4, .int (v4 + 1)), (2, .long (v2 + (wSh ((12 * v1) + v4).toNatClampNeg))), (5, .long (wSh ((12 * v1) + v4).toNatClampNeg)), (0, .ref (q 0)), (1, .int v1)]) hx hb dX5_trace_71 hl (k := 4) rfl rfl (by decide) rfl (fun ls hl => ?_)
          refine lv_goto (tgt := 20) hx hb dX5_trace_74 (by decide) ?_
          exact ih _ _ _ _ _ _ _ z h hE H locs ls hw (lv_sub hl [3, 4, 1, 0] rfl)
def f_X5_trace (ye : Int32) (wSh : Nat → Int64) (bOs : Nat → Int32) (bOn : Nat → Int32) (yop : Int32) (bSo : Nat → Int32) (bNu : Nat → Int32) (ytr : Int32) (yiw : Int32) (v1 : Int32) : Option (Int64 × Int32 × (Nat → Int32) × (Nat → Int32) × Int32 × Int32) :=
  (f_X5_isShelf v1).bind fun z1 =>
  if z1 = 0 then
  some ((-9223372036854775808), yop, bSo, bNu, ytr, yiw)
  else
  (f_X5_begins_ yop yiw).bind fun z3 =>
  f_X5_trace_L20 ye wSh bOs bOn v1 FU z3.1 bSo bNu ytr z3.2 0 0
set_option maxHeartbeats 4000000 in
set_option maxRecDepth 100000 in
theorem k_X5_trace {l : Launch} {G : GG} {q : Nat → Nat} {fr : va_W}  {yp : Int32} {ye : Int32} {yg : Int32} {bPo : Nat → Int32} {bTb : Nat → Int32} {wSh : Nat → Int64} {wTe : Nat → Int64} {wNx : Nat → Int64} {bOs : Nat → Int32} {bOn : Nat → Int32} {yop : Int32} {bSo : Nat → Int32} {bNu : Nat → Int32} {ytr : Int32} {yiw : Int32} {wMa : Nat → Int64} {wPr : Nat → Int64} {bTp : Nat → Int32} {yln : Int32} {ypl : Int32} {yfa : Int32} {wLi : Nat → Int64} {bSi : Nat → Int32} {yhp : Int32} {yhe : Int32} {yhg : Int32} {wHs : Nat → Int64} {yhi : Int32} {v1 : Int32} {z : Int64 × Int32 × (Nat → Int32) × (Nat → Int32) × Int32 × Int32}  (h : f_X5_trace ye wSh bOs bOn yop bSo bNu ytr yiw v1 = some z) : Ct l G yX5_trace cX5_trace 7 (some .long) 2 102 [.ref (q 0), .int v1] (mW G q yp ye yg bPo bTb wSh wTe wNx bOs bOn yop bSo bNu ytr yiw wMa wPr bTp yln ypl yfa wLi bSi yhp yhe yhg wHs yhi ++ fr) (some (.long z.1)) (mW G q yp ye yg bPo bTb wSh wTe wNx bOs bOn z.2.1 z.2.2.1 z.2.2.2.1 z.2.2.2.2.1 z.2.2.2.2.2 wMa wPr bTp yln ypl yfa wLi bSi yhp yhe yhg wHs yhi ++ fr) := by
  refine Ct.of (by decide +kernel) (Nat.le_of_ble_eq_true rfl) trivial ?_
  intro p e s m args below meth c Q A ls F hw hA hE hl
  have hx := F.x
  have hb := F.b
  unfold f_X5_trace at h
  obtain ⟨H, hH⟩ : ∃ H, H = s.heap := ⟨_, rfl⟩
  obtain ⟨locs, hlo⟩ : ∃ locs : List Loc, locs = [] := ⟨_, rfl⟩
  rw [← hH, ← hlo] at hw ⊢
  have hl : lv_has ls 7 [(0, .ref (q 0)), (1, .int v1)] := hl
  refine lv_iload_n hx hb dX5_trace_0 rfl (lv_at hl 1 rfl) ?_
  obtain ⟨z1, hz1, h⟩ := stB h
  refine ctS (av := [.int v1]) (st0 := ([] : List Value)) (st1 := ([.int z1] : List Value)) F hw hA (k_X5_isShelf hz1) kl_5_174 kd_X5_isShelf rfl ⟨by decide, by decide⟩ hl.1 rfl (Nat.le_of_ble_eq_true rfl) dX5_trace_1 rfl (fun H locs hw => ?_)
  refine lv_if_ne (tgt := 11) hx hb dX5_trace_4 (by decide) (fun c2 => ?_) (fun c2 => ?_)
  · replace h := stF c2 h
    refine lv_aload_n hx hb dX5_trace_11 rfl (lv_at hl 0 rfl) ?_
    obtain ⟨z3, hz3, h⟩ := stB h
    refine ctV (av := []) (st0 := ([] : List Value)) (st1 := ([] : List Value)) F hw hA (k_X5_begins_ hz3) kl_5_177 kd_X5_begins_ rfl ⟨by decide, by decide⟩ 0 rfl rfl hl.1 rfl (Nat.le_of_ble_eq_true rfl) dX5_trace_12 rfl (fun H locs hw => ?_)
    refine lv_lconst (v := 0) hx hb dX5_trace_15 (by decide) ?_
    refine lv_lstore_n (lv' := [(2, .long 0), (0, .ref (q 0)), (1, .int v1)]) hx hb dX5_trace_16 rfl hl (by decide) rfl (fun ls hl => ?_)
    refine lv_iconst (v := 0) hx hb dX5_trace_17 (by decide) ?_
    refine lv_istore (lv' := [(4, .int 0), (2, .long 0), (0, .ref (q 0)), (1, .int v1)]) hx hb dX5_trace_18 hl (by decide) rfl (fun ls hl => ?_)
    exact w_X5_trace_L20 F hA  FU _ _ _ _ _ _ _ z h hE H locs ls hw (lv_sub hl [2, 3, 1, 0] rfl)
  · replace h := stT c2 h
    refine lv_ldc2 (v := -9223372036854775808) hx hb F.ow (F.ts _ kc_5_138) dX5_trace_7 ?_
    obtain rfl := Option.some.inj h
    exact hE H locs _ ls hw dX5_trace_10
end
theorem dX5_isWhole_0 : decode cX5_isWhole 0 = .ok (.iload_n 1, 1) := by decide +kernel
theorem dX5_isWhole_1 : decode cX5_isWhole 1 = .ok (.invokestatic 174, 3) := by decide +kernel
theorem dX5_isWhole_4 : decode cX5_isWhole 4 = .ok (.ifCond .ne 5, 3) := by decide +kernel
theorem dX5_isWhole_7 : decode cX5_isWhole 7 = .ok (.iconst (-1), 1) := by decide +kernel
theorem dX5_isWhole_8 : decode cX5_isWhole 8 = .ok (.ireturn, 1) := by decide +kernel
theorem dX5_isWhole_9 : decode cX5_isWhole 9 = .ok (.iconst 1, 1) := by decide +kernel
theorem dX5_isWhole_10 : decode cX5_isWhole 10 = .ok (.istore_n 2, 1) := by decide +kernel
theorem dX5_isWhole_11 : decode cX5_isWhole 11 = .ok (.iconst 1, 1) := by decide +kernel
theorem dX5_isWhole_12 : decode cX5_isWhole 12 = .ok (.istore_n 3, 1) := by decide +kernel
theorem dX5_isWhole_13 : decode cX5_isWhole 13 = .ok (.iload_n 3, 1) := by decide +kernel
theorem dX5_isWhole_14 : decode cX5_isWhole 14 = .ok (.aload_n 0, 1) := by decide +kernel
theorem dX5_isWhole_15 : decode cX5_isWhole 15 = .ok (.getfield 66, 3) := by decide +kernel
theorem dX5_isWhole_18 : decode cX5_isWhole 18 = .ok (.if_icmp .ge 43, 3) := by decide +kernel
theorem dX5_isWhole_21 : decode cX5_isWhole 21 = .ok (.iload_n 2, 1) := by decide +kernel
theorem dX5_isWhole_22 : decode cX5_isWhole 22 = .ok (.ifCond .eq 31, 3) := by decide +kernel
theorem dX5_isWhole_25 : decode cX5_isWhole 25 = .ok (.aload_n 0, 1) := by decide +kernel
theorem dX5_isWhole_26 : decode cX5_isWhole 26 = .ok (.getfield 18, 3) := by decide +kernel
theorem dX5_isWhole_29 : decode cX5_isWhole 29 = .ok (.bipush 12, 2) := by decide +kernel
theorem dX5_isWhole_31 : decode cX5_isWhole 31 = .ok (.iload_n 1, 1) := by decide +kernel
theorem dX5_isWhole_32 : decode cX5_isWhole 32 = .ok (.imul, 1) := by decide +kernel
theorem dX5_isWhole_33 : decode cX5_isWhole 33 = .ok (.iload_n 3, 1) := by decide +kernel
theorem dX5_isWhole_34 : decode cX5_isWhole 34 = .ok (.iadd, 1) := by decide +kernel
theorem dX5_isWhole_35 : decode cX5_isWhole 35 = .ok (.laload, 1) := by decide +kernel
theorem dX5_isWhole_36 : decode cX5_isWhole 36 = .ok (.aload_n 0, 1) := by decide +kernel
theorem dX5_isWhole_37 : decode cX5_isWhole 37 = .ok (.getfield 18, 3) := by decide +kernel
theorem dX5_isWhole_40 : decode cX5_isWhole 40 = .ok (.bipush 12, 2) := by decide +kernel
theorem dX5_isWhole_42 : decode cX5_isWhole 42 = .ok (.iload_n 1, 1) := by decide +kernel
theorem dX5_isWhole_43 : decode cX5_isWhole 43 = .ok (.imul, 1) := by decide +kernel
theorem dX5_isWhole_44 : decode cX5_isWhole 44 = .ok (.laload, 1) := by decide +kernel
theorem dX5_isWhole_45 : decode cX5_isWhole 45 = .ok (.lcmp, 1) := by decide +kernel
theorem dX5_isWhole_46 : decode cX5_isWhole 46 = .ok (.ifCond .ne 7, 3) := by decide +kernel
theorem dX5_isWhole_49 : decode cX5_isWhole 49 = .ok (.iconst 1, 1) := by decide +kernel
theorem dX5_isWhole_50 : decode cX5_isWhole 50 = .ok (.goto 4, 3) := by decide +kernel
theorem dX5_isWhole_53 : decode cX5_isWhole 53 = .ok (.iconst 0, 1) := by decide +kernel
theorem dX5_isWhole_54 : decode cX5_isWhole 54 = .ok (.istore_n 2, 1) := by decide +kernel
theorem dX5_isWhole_55 : decode cX5_isWhole 55 = .ok (.iinc 3 1, 3) := by decide +kernel
theorem dX5_isWhole_58 : decode cX5_isWhole 58 = .ok (.goto (-45), 3) := by decide +kernel
theorem dX5_isWhole_61 : decode cX5_isWhole 61 = .ok (.iload_n 2, 1) := by decide +kernel
theorem dX5_isWhole_62 : decode cX5_isWhole 62 = .ok (.invokestatic 103, 3) := by decide +kernel
theorem dX5_isWhole_65 : decode cX5_isWhole 65 = .ok (.ireturn, 1) := by decide +kernel
section
variable {p : Program} {l : Launch} {e : Env} {s : State} {m : MethodId} {args : Array Value} {below : List Frame} {meth : Method} {c : Code} {Q : State → Prop} {G : GG} {A : Nat → Prop} {q : Nat → Nat} {fr : va_W}
def f_X5_isWhole_L13 (ye : Int32) (wSh : Nat → Int64) (v1 : Int32) : Nat → Int32 → Int32 → Option (Int32)
  | 0, _, _ => none
  | fu + 1, v2, v3 =>
    if ye ≤ v3 then
    (f_X5_bit v2).bind fun z2 =>
    some z2
    else
    if v2 = 0 then
    f_X5_isWhole_L13 ye wSh v1 fu 0 (v3 + 1)
    else
    if inb ((12 * v1) + v3) 48 then
    if inb (12 * v1) 48 then
    if (lg_cmp (wSh ((12 * v1) + v3).toNatClampNeg) (wSh (12 * v1).toNatClampNeg)) = 0 then
    f_X5_isWhole_L13 ye wSh v1 fu 1 (v3 + 1)
    else
    f_X5_isWhole_L13 ye wSh v1 fu 0 (v3 + 1)
    else none
    else none
set_option maxHeartbeats 4000000 in
set_option maxRecDepth 100000 in
theorem w_X5_isWhole_L13  {yp : Int32} {ye : Int32} {yg : Int32} {bPo : Nat → Int32} {bTb : Nat → Int32} {wSh : Nat → Int64} {wTe : Nat → Int64} {wNx : Nat → Int64} {bOs : Nat → Int32} {bOn : Nat → Int32} {yop : Int32} {bSo : Nat → Int32} {bNu : Nat → Int32} {ytr : Int32} {yiw : Int32} {wMa : Nat → Int64} {wPr : Nat → Int64} {bTp : Nat → Int32} {yln : Int32} {ypl : Int32} {yfa : Int32} {wLi : Nat → Int64} {bSi : Nat → Int32} {yhp : Int32} {yhe : Int32} {yhg : Int32} {wHs : Nat → Int64} {yhi : Int32} {v1 : Int32}  (F : Fx p s m args meth c cX5_isWhole 4 RX5 (some .int)) (hA : ∀ q, s.heap.size ≤ q → A q)   : ∀ (fu : Nat) (v2 : Int32) (v3 : Int32) (z : Int32), f_X5_isWhole_L13 ye wSh v1 fu v2 v3 = some z → Ends p l e (rmOf 2 45) s m args below meth c Q cX5_isWhole G A (some .int) (some (.int z)) (mW G q yp ye yg bPo bTb wSh wTe wNx bOs bOn yop bSo bNu ytr yiw wMa wPr bTp yln ypl yfa wLi bSi yhp yhe yhg wHs yhi ++ fr) → ∀ (H : Heap) (locs : List Loc) (ls : Array Slot), Wd G s A (mW G q yp ye yg bPo bTb wSh wTe wNx bOs bOn yop bSo bNu ytr yiw wMa wPr bTp yln ypl yfa wLi bSi yhp yhe yhg wHs yhi ++ fr) H locs → lv_has ls 4 [(0, .ref (q 0)), (1, .int v1), (2, .int v2), (3, .int v3)] → W p l e (rmOf 2 45) s m args below meth c H locs 0 0 Q (F0 m 13 ls []) := by
  have hx := F.x
  have hb := F.b
  intro fu
  induction fu with
  | zero =>
    intro v2 v3 z h
    cases (h : none = some z)
  | succ fu ih =>
    intro v2 v3 z h hE H locs ls hw hl
    rw [f_X5_isWhole_L13] at h
    refine lv_iload_n hx hb dX5_isWhole_13 rfl (lv_at hl 3 rfl) ?_
    refine lv_aload_n hx hb dX5_isWhole_14 rfl (lv_at hl 0 rfl) ?_
    refine gf_5_66 F hw dX5_isWhole_15 ?_
    refine lv_icmp_ge (tgt := 61) hx hb dX5_isWhole_18 (by decide) (fun c1 => ?_) (fun c1 => ?_)
    · replace h := stT c1 h
      refine lv_iload_n hx hb dX5_isWhole_61 rfl (lv_at hl 2 rfl) ?_
      obtain ⟨z2, hz2, h⟩ := stB h
      refine ctS (av := [.int v2]) (st0 := ([] : List Value)) (st1 := ([.int z2] : List Value)) F hw hA (k_X5_bit hz2) kl_5_103 kd_X5_bit rfl ⟨by decide, by decide⟩ hl.1 rfl (Nat.le_of_ble_eq_true rfl) dX5_isWhole_62 rfl (fun H locs hw => ?_)
      obtain rfl := Option.some.inj h
      exact hE H locs _ ls hw dX5_isWhole_65
    · replace h := stF c1 h
      refine lv_iload_n hx hb dX5_isWhole_21 rfl (lv_at hl 2 rfl) ?_
      refine lv_if_eq (tgt := 53) hx hb dX5_isWhole_22 (by decide) (fun c3 => ?_) (fun c3 => ?_)
      · replace h := stT c3 h
        refine lv_iconst (v := 0) hx hb dX5_isWhole_53 (by decide) ?_
        refine lv_istore_n (lv' := [(2, .int 0), (0, .ref (q 0)), (1, .int v1), (3, .int v3)]) hx hb dX5_isWhole_54 rfl hl (by decide) rfl (fun ls hl => ?_)
        refine lv_iinc (v := (v3 + 1)) (lv' := [(3, .int (v3 + 1)), (2, .int 0), (0, .ref (q 0)), (1, .int v1)]) hx hb dX5_isWhole_55 hl (k := 3) rfl rfl (by decide) rfl (fun ls hl => ?_)
        refine lv_goto (tgt := 13) hx hb dX5_isWhole_58 (by decide) ?_
        exact ih _ _ z h hE H locs ls hw (lv_sub hl [2, 3, 1, 0] rfl)
      · replace h := stF c3 h
        refine lv_aload_n hx hb dX5_isWhole_25 rfl (lv_at hl 0 rfl) ?_
        refine gf_5_18 F hw dX5_isWhole_26 ?_
        refine lv_bipush (v := 12) hx hb dX5_isWhole_29 (by decide) ?_
        refine lv_iload_n hx hb dX5_isWhole_31 rfl (lv_at hl 1 rfl) ?_
        refine lv_imul hx hb dX5_isWhole_32 ?_
        refine lv_iload_n hx hb dX5_isWhole_33 rfl (lv_at hl 3 rfl) ?_
        refine lv_iadd hx hb dX5_isWhole_34 ?_
        obtain ⟨g4, h⟩ := stG h
        refine al_m3 F hw g4 dX5_isWhole_35 ?_
        refine lv_aload_n hx hb dX5_isWhole_36 rfl (lv_at hl 0 rfl) ?_
        refine gf_5_18 F hw dX5_isWhole_37 ?_
        refine lv_bipush (v := 12) hx hb dX5_isWhole_40 (by decide) ?_
        refine lv_iload_n hx hb dX5_isWhole_42 rfl (lv_at hl 1 rfl) ?_
        refine lv_imul hx hb dX5_isWhole_43 ?_
        obtain ⟨g5, h⟩ := stG h
        refine al_m3 F hw g5 dX5_isWhole_44 ?_
        refine W.lcmp hx hb dX5_isWhole_45 ?_
        refine lv_if_ne (tgt := 53) hx hb dX5_isWhole_46 (by decide) (fun c6 => ?_) (fun c6 => ?_)
        · replace h := stF c6 h
          refine lv_iconst (v := 0) hx hb dX5_isWhole_53 (by decide) ?_
          refine lv_istore_n (lv' := [(2, .int 0), (0, .ref (q 0)), (1, .int v1), (3, .int v3)]) hx hb dX5_isWhole_54 rfl hl (by decide) rfl (fun ls hl => ?_)
          refine lv_iinc (v := (v3 + 1)) (lv' := [(3, .int (v3 + 1)), (2, .int 0), (0, .ref (q 0)), (1, .int v1)]) hx hb dX5_isWhole_55 hl (k := 3) rfl rfl (by decide) rfl (fun ls hl => ?_)
          refine lv_goto (tgt := 13) hx hb dX5_isWhole_58 (by decide) ?_
          exact ih _ _ z h hE H locs ls hw (lv_sub hl [2, 3, 1, 0] rfl)
        · replace h := stT c6 h
          refine lv_iconst (v := 1) hx hb dX5_isWhole_49 (by decide) ?_
          refine lv_goto (tgt := 54) hx hb dX5_isWhole_50 (by decide) ?_
          refine lv_istore_n (lv' := [(2, .int 1), (0, .ref (q 0)), (1, .int v1), (3, .int v3)]) hx hb dX5_isWhole_54 rfl hl (by decide) rfl (fun ls hl => ?_)
          refine lv_iinc (v := (v3 + 1)) (lv' := [(3, .int (v3 + 1)), (2, .int 1), (0, .ref (q 0)), (1, .int v1)]) hx hb dX5_isWhole_55 hl (k := 3) rfl rfl (by decide) rfl (fun ls hl => ?_)
          refine lv_goto (tgt := 13) hx hb dX5_isWhole_58 (by decide) ?_
          exact ih _ _ z h hE H locs ls hw (lv_sub hl [2, 3, 1, 0] rfl)
def f_X5_isWhole (ye : Int32) (wSh : Nat → Int64) (v1 : Int32) : Option (Int32) :=
  (f_X5_isShelf v1).bind fun z1 =>
  if z1 = 0 then
  some (-1)
  else
  f_X5_isWhole_L13 ye wSh v1 FU 1 1
set_option maxHeartbeats 4000000 in
set_option maxRecDepth 100000 in
theorem k_X5_isWhole {l : Launch} {G : GG} {q : Nat → Nat} {fr : va_W}  {yp : Int32} {ye : Int32} {yg : Int32} {bPo : Nat → Int32} {bTb : Nat → Int32} {wSh : Nat → Int64} {wTe : Nat → Int64} {wNx : Nat → Int64} {bOs : Nat → Int32} {bOn : Nat → Int32} {yop : Int32} {bSo : Nat → Int32} {bNu : Nat → Int32} {ytr : Int32} {yiw : Int32} {wMa : Nat → Int64} {wPr : Nat → Int64} {bTp : Nat → Int32} {yln : Int32} {ypl : Int32} {yfa : Int32} {wLi : Nat → Int64} {bSi : Nat → Int32} {yhp : Int32} {yhe : Int32} {yhg : Int32} {wHs : Nat → Int64} {yhi : Int32} {v1 : Int32} {z : Int32}  (h : f_X5_isWhole ye wSh v1 = some z) : Ct l G yX5_isWhole cX5_isWhole 4 (some .int) 2 45 [.ref (q 0), .int v1] (mW G q yp ye yg bPo bTb wSh wTe wNx bOs bOn yop bSo bNu ytr yiw wMa wPr bTp yln ypl yfa wLi bSi yhp yhe yhg wHs yhi ++ fr) (some (.int z)) (mW G q yp ye yg bPo bTb wSh wTe wNx bOs bOn yop bSo bNu ytr yiw wMa wPr bTp yln ypl yfa wLi bSi yhp yhe yhg wHs yhi ++ fr) := by
  refine Ct.of (by decide +kernel) (Nat.le_of_ble_eq_true rfl) trivial ?_
  intro p e s m args below meth c Q A ls F hw hA hE hl
  have hx := F.x
  have hb := F.b
  unfold f_X5_isWhole at h
  obtain ⟨H, hH⟩ : ∃ H, H = s.heap := ⟨_, rfl⟩
  obtain ⟨locs, hlo⟩ : ∃ locs : List Loc, locs = [] := ⟨_, rfl⟩
  rw [← hH, ← hlo] at hw ⊢
  have hl : lv_has ls 4 [(0, .ref (q 0)), (1, .int v1)] := hl
  refine lv_iload_n hx hb dX5_isWhole_0 rfl (lv_at hl 1 rfl) ?_
  obtain ⟨z1, hz1, h⟩ := stB h
  refine ctS (av := [.int v1]) (st0 := ([] : List Value)) (st1 := ([.int z1] : List Value)) F hw hA (k_X5_isShelf hz1) kl_5_174 kd_X5_isShelf rfl ⟨by decide, by decide⟩ hl.1 rfl (Nat.le_of_ble_eq_true rfl) dX5_isWhole_1 rfl (fun H locs hw => ?_)
  refine lv_if_ne (tgt := 9) hx hb dX5_isWhole_4 (by decide) (fun c2 => ?_) (fun c2 => ?_)
  · replace h := stF c2 h
    refine lv_iconst (v := 1) hx hb dX5_isWhole_9 (by decide) ?_
    refine lv_istore_n (lv' := [(2, .int 1), (0, .ref (q 0)), (1, .int v1)]) hx hb dX5_isWhole_10 rfl hl (by decide) rfl (fun ls hl => ?_)
    refine lv_iconst (v := 1) hx hb dX5_isWhole_11 (by decide) ?_
    refine lv_istore_n (lv' := [(3, .int 1), (2, .int 1), (0, .ref (q 0)), (1, .int v1)]) hx hb dX5_isWhole_12 rfl hl (by decide) rfl (fun ls hl => ?_)
    exact w_X5_isWhole_L13 F hA  FU _ _ z h hE H locs ls hw (lv_sub hl [2, 3, 1, 0] rfl)
  · replace h := stT c2 h
    refine lv_iconst (v := -1) hx hb dX5_isWhole_7 (by decide) ?_
    obtain rfl := Option.some.inj h
    exact hE H locs _ ls hw dX5_isWhole_8
end
theorem dX5_alike_0 : decode cX5_alike 0 = .ok (.iload_n 1, 1) := by decide +kernel
theorem dX5_alike_1 : decode cX5_alike 1 = .ok (.invokestatic 174, 3) := by decide +kernel
theorem dX5_alike_4 : decode cX5_alike 4 = .ok (.ifCond .eq 10, 3) := by decide +kernel
theorem dX5_alike_7 : decode cX5_alike 7 = .ok (.iload_n 2, 1) := by decide +kernel
theorem dX5_alike_8 : decode cX5_alike 8 = .ok (.invokestatic 174, 3) := by decide +kernel
theorem dX5_alike_11 : decode cX5_alike 11 = .ok (.ifCond .ne 5, 3) := by decide +kernel
theorem dX5_alike_14 : decode cX5_alike 14 = .ok (.iconst (-1), 1) := by decide +kernel
theorem dX5_alike_15 : decode cX5_alike 15 = .ok (.ireturn, 1) := by decide +kernel
theorem dX5_alike_16 : decode cX5_alike 16 = .ok (.iconst 0, 1) := by decide +kernel
theorem dX5_alike_17 : decode cX5_alike 17 = .ok (.istore_n 3, 1) := by decide +kernel
theorem dX5_alike_18 : decode cX5_alike 18 = .ok (.iload_n 3, 1) := by decide +kernel
theorem dX5_alike_19 : decode cX5_alike 19 = .ok (.aload_n 0, 1) := by decide +kernel
theorem dX5_alike_20 : decode cX5_alike 20 = .ok (.getfield 66, 3) := by decide +kernel
theorem dX5_alike_23 : decode cX5_alike 23 = .ok (.if_icmp .ge 84, 3) := by decide +kernel
theorem dX5_alike_26 : decode cX5_alike 26 = .ok (.iconst 1, 1) := by decide +kernel
theorem dX5_alike_27 : decode cX5_alike 27 = .ok (.istore 4, 2) := by decide +kernel
theorem dX5_alike_29 : decode cX5_alike 29 = .ok (.iconst 0, 1) := by decide +kernel
theorem dX5_alike_30 : decode cX5_alike 30 = .ok (.istore 5, 2) := by decide +kernel
theorem dX5_alike_32 : decode cX5_alike 32 = .ok (.iload 5, 2) := by decide +kernel
theorem dX5_alike_34 : decode cX5_alike 34 = .ok (.aload_n 0, 1) := by decide +kernel
theorem dX5_alike_35 : decode cX5_alike 35 = .ok (.getfield 66, 3) := by decide +kernel
theorem dX5_alike_38 : decode cX5_alike 38 = .ok (.if_icmp .ge 56, 3) := by decide +kernel
theorem dX5_alike_41 : decode cX5_alike 41 = .ok (.iload 4, 2) := by decide +kernel
theorem dX5_alike_43 : decode cX5_alike 43 = .ok (.ifCond .eq 42, 3) := by decide +kernel
theorem dX5_alike_46 : decode cX5_alike 46 = .ok (.aload_n 0, 1) := by decide +kernel
theorem dX5_alike_47 : decode cX5_alike 47 = .ok (.getfield 18, 3) := by decide +kernel
theorem dX5_alike_50 : decode cX5_alike 50 = .ok (.bipush 12, 2) := by decide +kernel
theorem dX5_alike_52 : decode cX5_alike 52 = .ok (.iload_n 1, 1) := by decide +kernel
theorem dX5_alike_53 : decode cX5_alike 53 = .ok (.imul, 1) := by decide +kernel
theorem dX5_alike_54 : decode cX5_alike 54 = .ok (.iload 5, 2) := by decide +kernel
theorem dX5_alike_56 : decode cX5_alike 56 = .ok (.iadd, 1) := by decide +kernel
theorem dX5_alike_57 : decode cX5_alike 57 = .ok (.laload, 1) := by decide +kernel
theorem dX5_alike_58 : decode cX5_alike 58 = .ok (.aload_n 0, 1) := by decide +kernel
theorem dX5_alike_59 : decode cX5_alike 59 = .ok (.getfield 18, 3) := by decide +kernel
theorem dX5_alike_62 : decode cX5_alike 62 = .ok (.bipush 12, 2) := by decide +kernel
theorem dX5_alike_64 : decode cX5_alike 64 = .ok (.iload_n 2, 1) := by decide +kernel
theorem dX5_alike_65 : decode cX5_alike 65 = .ok (.imul, 1) := by decide +kernel
theorem dX5_alike_66 : decode cX5_alike 66 = .ok (.iload 5, 2) := by decide +kernel
theorem dX5_alike_68 : decode cX5_alike 68 = .ok (.iload_n 3, 1) := by decide +kernel
theorem dX5_alike_69 : decode cX5_alike 69 = .ok (.iadd, 1) := by decide +kernel
theorem dX5_alike_70 : decode cX5_alike 70 = .ok (.aload_n 0, 1) := by decide +kernel
theorem dX5_alike_71 : decode cX5_alike 71 = .ok (.getfield 66, 3) := by decide +kernel
theorem dX5_alike_74 : decode cX5_alike 74 = .ok (.irem, 1) := by decide +kernel
theorem dX5_alike_75 : decode cX5_alike 75 = .ok (.iadd, 1) := by decide +kernel
theorem dX5_alike_76 : decode cX5_alike 76 = .ok (.laload, 1) := by decide +kernel
theorem dX5_alike_77 : decode cX5_alike 77 = .ok (.lcmp, 1) := by decide +kernel
theorem dX5_alike_78 : decode cX5_alike 78 = .ok (.ifCond .ne 7, 3) := by decide +kernel
theorem dX5_alike_81 : decode cX5_alike 81 = .ok (.iconst 1, 1) := by decide +kernel
theorem dX5_alike_82 : decode cX5_alike 82 = .ok (.goto 4, 3) := by decide +kernel
theorem dX5_alike_85 : decode cX5_alike 85 = .ok (.iconst 0, 1) := by decide +kernel
theorem dX5_alike_86 : decode cX5_alike 86 = .ok (.istore 4, 2) := by decide +kernel
theorem dX5_alike_88 : decode cX5_alike 88 = .ok (.iinc 5 1, 3) := by decide +kernel
theorem dX5_alike_91 : decode cX5_alike 91 = .ok (.goto (-59), 3) := by decide +kernel
theorem dX5_alike_94 : decode cX5_alike 94 = .ok (.iload 4, 2) := by decide +kernel
theorem dX5_alike_96 : decode cX5_alike 96 = .ok (.ifCond .eq 5, 3) := by decide +kernel
theorem dX5_alike_99 : decode cX5_alike 99 = .ok (.iload_n 3, 1) := by decide +kernel
theorem dX5_alike_100 : decode cX5_alike 100 = .ok (.ireturn, 1) := by decide +kernel
theorem dX5_alike_101 : decode cX5_alike 101 = .ok (.iinc 3 1, 3) := by decide +kernel
theorem dX5_alike_104 : decode cX5_alike 104 = .ok (.goto (-86), 3) := by decide +kernel
theorem dX5_alike_107 : decode cX5_alike 107 = .ok (.bipush (-5), 2) := by decide +kernel
theorem dX5_alike_109 : decode cX5_alike 109 = .ok (.ireturn, 1) := by decide +kernel
section
variable {p : Program} {l : Launch} {e : Env} {s : State} {m : MethodId} {args : Array Value} {below : List Frame} {meth : Method} {c : Code} {Q : State → Prop} {G : GG} {A : Nat → Prop} {q : Nat → Nat} {fr : va_W}
def f_X5_alike_L32 (ye : Int32) (wSh : Nat → Int64) (v1 : Int32) (v2 : Int32) (KK : Int32 → Option (Int32)) : Nat → Int32 → Int32 → Int32 → Option (Int32)
  | 0, _, _, _ => none
  | fu + 1, v3, v4, v5 =>
    if ye ≤ v5 then
    if v4 = 0 then
    KK (v3 + 1)
    else
    some v3
    else
    if v4 = 0 then
    f_X5_alike_L32 ye wSh v1 v2 KK fu v3 0 (v5 + 1)
    else
    if inb ((12 * v1) + v5) 48 then
    if ye = 0 then none else
    if inb ((12 * v2) + ((v5 + v3) - (v5 + v3) / ye * ye)) 48 then
    if (lg_cmp (wSh ((12 * v1) + v5).toNatClampNeg) (wSh ((12 * v2) + ((v5 + v3) - (v5 + v3) / ye * ye)).toNatClampNeg)) = 0 then
    f_X5_alike_L32 ye wSh v1 v2 KK fu v3 1 (v5 + 1)
    else
    f_X5_alike_L32 ye wSh v1 v2 KK fu v3 0 (v5 + 1)
    else none
    else none
set_option maxHeartbeats 4000000 in
set_option maxRecDepth 100000 in
theorem w_X5_alike_L32  {yp : Int32} {ye : Int32} {yg : Int32} {bPo : Nat → Int32} {bTb : Nat → Int32} {wSh : Nat → Int64} {wTe : Nat → Int64} {wNx : Nat → Int64} {bOs : Nat → Int32} {bOn : Nat → Int32} {yop : Int32} {bSo : Nat → Int32} {bNu : Nat → Int32} {ytr : Int32} {yiw : Int32} {wMa : Nat → Int64} {wPr : Nat → Int64} {bTp : Nat → Int32} {yln : Int32} {ypl : Int32} {yfa : Int32} {wLi : Nat → Int64} {bSi : Nat → Int32} {yhp : Int32} {yhe : Int32} {yhg : Int32} {wHs : Nat → Int64} {yhi : Int32} {v1 : Int32} {v2 : Int32} {KK : Int32 → Option (Int32)} (F : Fx p s m args meth c cX5_alike 6 RX5 (some .int)) (hA : ∀ q, s.heap.size ≤ q → A q)  (hK : ∀ (v3 : Int32) (z : Int32), KK v3 = some z → Ends p l e (rmOf 2 45) s m args below meth c Q cX5_alike G A (some .int) (some (.int z)) (mW G q yp ye yg bPo bTb wSh wTe wNx bOs bOn yop bSo bNu ytr yiw wMa wPr bTp yln ypl yfa wLi bSi yhp yhe yhg wHs yhi ++ fr) → ∀ (H : Heap) (locs : List Loc) (ls : Array Slot), Wd G s A (mW G q yp ye yg bPo bTb wSh wTe wNx bOs bOn yop bSo bNu ytr yiw wMa wPr bTp yln ypl yfa wLi bSi yhp yhe yhg wHs yhi ++ fr) H locs → lv_has ls 6 [(0, .ref (q 0)), (1, .int v1), (2, .int v2), (3, .int v3)] → W p l e (rmOf 2 45) s m args below meth c H locs 0 0 Q (F0 m 18 ls [])) : ∀ (fu : Nat) (v3 : Int32) (v4 : Int32) (v5 : Int32) (z : Int32), f_X5_alike_L32 ye wSh v1 v2 KK fu v3 v4 v5 = some z → Ends p l e (rmOf 2 45) s m args below meth c Q cX5_alike G A (some .int) (some (.int z)) (mW G q yp ye yg bPo bTb wSh wTe wNx bOs bOn yop bSo bNu ytr yiw wMa wPr bTp yln ypl yfa wLi bSi yhp yhe yhg wHs yhi ++ fr) → ∀ (H : Heap) (locs : List Loc) (ls : Array Slot), Wd G s A (mW G q yp ye yg bPo bTb wSh wTe wNx bOs bOn yop bSo bNu ytr yiw wMa wPr bTp yln ypl yfa wLi bSi yhp yhe yhg wHs yhi ++ fr) H locs → lv_has ls 6 [(0, .ref (q 0)), (1, .int v1), (2, .int v2), (3, .int v3), (4, .int v4), (5, .int v5)] → W p l e (rmOf 2 45) s m args below meth c H locs 0 0 Q (F0 m 32 ls []) := by
  have hx := F.x
  have hb := F.b
  intro fu
  induction fu with
  | zero =>
    intro v3 v4 v5 z h
    cases (h : none = some z)
  | succ fu ih =>
    intro v3 v4 v5 z h hE H locs ls hw hl
    rw [f_X5_alike_L32] at h
    refine lv_iload hx hb dX5_alike_32 (lv_at hl 5 rfl) ?_
    refine lv_aload_n hx hb dX5_alike_34 rfl (lv_at hl 0 rfl) ?_
    refine gf_5_66 F hw dX5_alike_35 ?_
    refine lv_icmp_ge (tgt := 94) hx hb dX5_alike_38 (by decide) (fun c1 => ?_) (fun c1 => ?_)
    · replace h := stT c1 h
      refine lv_iload hx hb dX5_alike_94 (lv_at hl 4 rfl) ?_
      refine lv_if_eq (tgt := 101) hx hb dX5_alike_96 (by decide) (fun c2 => ?_) (fun c2 => ?_)
      · replace h := stT c2 h
        refine lv_iinc (v := (v3 + 1)) (lv' := [(3, .int (v3 + 1)), (0, .ref (q 0)), (1, .int v1), (2, .int v2), (4, .int v4), (5, .int v5)]) hx hb dX5_alike_101 hl (k := 3) rfl rfl (by decide) rfl (fun ls hl => ?_)
        refine lv_goto (tgt := 18) hx hb dX5_alike_104 (by decide) ?_
        exact hK _ z h hE H locs ls hw (lv_sub hl [1, 2, 3, 0] rfl)
      · replace h := stF c2 h
        refine lv_iload_n hx hb dX5_alike_99 rfl (lv_at hl 3 rfl) ?_
        obtain rfl := Option.some.inj h
        exact hE H locs _ ls hw dX5_alike_100
    · replace h := stF c1 h
      refine lv_iload hx hb dX5_alike_41 (lv_at hl 4 rfl) ?_
      refine lv_if_eq (tgt := 85) hx hb dX5_alike_43 (by decide) (fun c3 => ?_) (fun c3 => ?_)
      · replace h := stT c3 h
        refine lv_iconst (v := 0) hx hb dX5_alike_85 (by decide) ?_
        refine lv_istore (lv' := [(4, .int 0), (0, .ref (q 0)), (1, .int v1), (2, .int v2), (3, .int v3), (5, .int v5)]) hx hb dX5_alike_86 hl (by decide) rfl (fun ls hl => ?_)
        refine lv_iinc (v := (v5 + 1)) (lv' := [(5, .int (v5 + 1)), (4, .int 0), (0, .ref (q 0)), (1, .int v1), (2, .int v2), (3, .int v3)]) hx hb dX5_alike_88 hl (k := 5) rfl rfl (by decide) rfl (fun ls hl => ?_)
        refine lv_goto (tgt := 32) hx hb dX5_alike_91 (by decide) ?_
        exact ih _ _ _ z h hE H locs ls hw (lv_sub hl [2, 3, 4, 5, 1, 0] rfl)
      · replace h := stF c3 h
        refine lv_aload_n hx hb dX5_alike_46 rfl (lv_at hl 0 rfl) ?_
        refine gf_5_18 F hw dX5_alike_47 ?_
        refine lv_bipush (v := 12) hx hb dX5_alike_50 (by decide) ?_
        refine lv_iload_n hx hb dX5_alike_52 rfl (lv_at hl 1 rfl) ?_
        refine lv_imul hx hb dX5_alike_53 ?_
        refine lv_iload hx hb dX5_alike_54 (lv_at hl 5 rfl) ?_
        refine lv_iadd hx hb dX5_alike_56 ?_
        obtain ⟨g4, h⟩ := stG h
        refine al_m3 F hw g4 dX5_alike_57 ?_
        refine lv_aload_n hx hb dX5_alike_58 rfl (lv_at hl 0 rfl) ?_
        refine gf_5_18 F hw dX5_alike_59 ?_
        refine lv_bipush (v := 12) hx hb dX5_alike_62 (by decide) ?_
        refine lv_iload_n hx hb dX5_alike_64 rfl (lv_at hl 2 rfl) ?_
        refine lv_imul hx hb dX5_alike_65 ?_
        refine lv_iload hx hb dX5_alike_66 (lv_at hl 5 rfl) ?_
        refine lv_iload_n hx hb dX5_alike_68 rfl (lv_at hl 3 rfl) ?_
        refine lv_iadd hx hb dX5_alike_69 ?_
        refine lv_aload_n hx hb dX5_alike_70 rfl (lv_at hl 0 rfl) ?_
        refine gf_5_66 F hw dX5_alike_71 ?_
        obtain ⟨g5, h⟩ := stD h
        refine lv_irem hx hb dX5_alike_74 g5 ?_
        refine lv_iadd hx hb dX5_alike_75 ?_
        obtain ⟨g6, h⟩ := stG h
        refine al_m3 F hw g6 dX5_alike_76 ?_
        refine W.lcmp hx hb dX5_alike_77 ?_
        refine lv_if_ne (tgt := 85) hx hb dX5_alike_78 (by decide) (fun c7 => ?_) (fun c7 => ?_)
        · replace h := stF c7 h
          refine lv_iconst (v := 0) hx hb dX5_alike_85 (by decide) ?_
          refine lv_istore (lv' := [(4, .int 0), (0, .ref (q 0)), (1, .int v1), (2, .int v2), (3, .int v3), (5, .int v5)]) hx hb dX5_alike_86 hl (by decide) rfl (fun ls hl => ?_)
          refine lv_iinc (v := (v5 + 1)) (lv' := [(5, .int (v5 + 1)), (4, .int 0), (0, .ref (q 0)), (1, .int v1), (2, .int v2), (3, .int v3)]) hx hb dX5_alike_88 hl (k := 5) rfl rfl (by decide) rfl (fun ls hl => ?_)
          refine lv_goto (tgt := 32) hx hb dX5_alike_91 (by decide) ?_
          exact ih _ _ _ z h hE H locs ls hw (lv_sub hl [2, 3, 4, 5, 1, 0] rfl)
        · replace h := stT c7 h
          refine lv_iconst (v := 1) hx hb dX5_alike_81 (by decide) ?_
          refine lv_goto (tgt := 86) hx hb dX5_alike_82 (by decide) ?_
          refine lv_istore (lv' := [(4, .int 1), (0, .ref (q 0)), (1, .int v1), (2, .int v2), (3, .int v3), (5, .int v5)]) hx hb dX5_alike_86 hl (by decide) rfl (fun ls hl => ?_)
          refine lv_iinc (v := (v5 + 1)) (lv' := [(5, .int (v5 + 1)), (4, .int 1), (0, .ref (q 0)), (1, .int v1), (2, .int v2), (3, .int v3)]) hx hb dX5_alike_88 hl (k := 5) rfl rfl (by decide) rfl (fun ls hl => ?_)
          refine lv_goto (tgt := 32) hx hb dX5_alike_91 (by decide) ?_
          exact ih _ _ _ z h hE H locs ls hw (lv_sub hl [2, 3, 4, 5, 1, 0] rfl)
def f_X5_alike_L18 (ye : Int32) (wSh : Nat → Int64) (v1 : Int32) (v2 : Int32) : Nat → Int32 → Option (Int32)
  | 0, _ => none
  | fu + 1, v3 =>
    if ye ≤ v3 then
    some (-5)
    else
    f_X5_alike_L32 ye wSh v1 v2 (fun w0 => f_X5_alike_L18 ye wSh v1 v2 fu w0) FU v3 1 0
set_option maxHeartbeats 4000000 in
set_option maxRecDepth 100000 in
theorem w_X5_alike_L18  {yp : Int32} {ye : Int32} {yg : Int32} {bPo : Nat → Int32} {bTb : Nat → Int32} {wSh : Nat → Int64} {wTe : Nat → Int64} {wNx : Nat → Int64} {bOs : Nat → Int32} {bOn : Nat → Int32} {yop : Int32} {bSo : Nat → Int32} {bNu : Nat → Int32} {ytr : Int32} {yiw : Int32} {wMa : Nat → Int64} {wPr : Nat → Int64} {bTp : Nat → Int32} {yln : Int32} {ypl : Int32} {yfa : Int32} {wLi : Nat → Int64} {bSi : Nat → Int32} {yhp : Int32} {yhe : Int32} {yhg : Int32} {wHs : Nat → Int64} {yhi : Int32} {v1 : Int32} {v2 : Int32}  (F : Fx p s m args meth c cX5_alike 6 RX5 (some .int)) (hA : ∀ q, s.heap.size ≤ q → A q)   : ∀ (fu : Nat) (v3 : Int32) (z : Int32), f_X5_alike_L18 ye wSh v1 v2 fu v3 = some z → Ends p l e (rmOf 2 45) s m args below meth c Q cX5_alike G A (some .int) (some (.int z)) (mW G q yp ye yg bPo bTb wSh wTe wNx bOs bOn yop bSo bNu ytr yiw wMa wPr bTp yln ypl yfa wLi bSi yhp yhe yhg wHs yhi ++ fr) → ∀ (H : Heap) (locs : List Loc) (ls : Array Slot), Wd G s A (mW G q yp ye yg bPo bTb wSh wTe wNx bOs bOn yop bSo bNu ytr yiw wMa wPr bTp yln ypl yfa wLi bSi yhp yhe yhg wHs yhi ++ fr) H locs → lv_has ls 6 [(0, .ref (q 0)), (1, .int v1), (2, .int v2), (3, .int v3)] → W p l e (rmOf 2 45) s m args below meth c H locs 0 0 Q (F0 m 18 ls []) := by
  have hx := F.x
  have hb := F.b
  intro fu
  induction fu with
  | zero =>
    intro v3 z h
    cases (h : none = some z)
  | succ fu ih =>
    intro v3 z h hE H locs ls hw hl
    rw [f_X5_alike_L18] at h
    refine lv_iload_n hx hb dX5_alike_18 rfl (lv_at hl 3 rfl) ?_
    refine lv_aload_n hx hb dX5_alike_19 rfl (lv_at hl 0 rfl) ?_
    refine gf_5_66 F hw dX5_alike_20 ?_
    refine lv_icmp_ge (tgt := 107) hx hb dX5_alike_23 (by decide) (fun c1 => ?_) (fun c1 => ?_)
    · replace h := stT c1 h
      refine lv_bipush (v := -5) hx hb dX5_alike_107 (by decide) ?_
      obtain rfl := Option.some.inj h
      exact hE H locs _ ls hw dX5_alike_109
    · replace h := stF c1 h
      refine lv_iconst (v := 1) hx hb dX5_alike_26 (by decide) ?_
      refine lv_istore (lv' := [(4, .int 1), (0, .ref (q 0)), (1, .int v1), (2, .int v2), (3, .int v3)]) hx hb dX5_alike_27 hl (by decide) rfl (fun ls hl => ?_)
      refine lv_iconst (v := 0) hx hb dX5_alike_29 (by decide) ?_
      refine lv_istore (lv' := [(5, .int 0), (4, .int 1), (0, .ref (q 0)), (1, .int v1), (2, .int v2), (3, .int v3)]) hx hb dX5_alike_30 hl (by decide) rfl (fun ls hl => ?_)
      exact w_X5_alike_L32 F hA  (fun w0 z h hE H locs ls hw hl => ih w0 z h hE H locs ls hw hl) FU _ _ _ z h hE H locs ls hw (lv_sub hl [2, 3, 4, 5, 1, 0] rfl)
def f_X5_alike (ye : Int32) (wSh : Nat → Int64) (v1 : Int32) (v2 : Int32) : Option (Int32) :=
  (f_X5_isShelf v1).bind fun z1 =>
  if z1 = 0 then
  some (-1)
  else
  (f_X5_isShelf v2).bind fun z3 =>
  if z3 = 0 then
  some (-1)
  else
  f_X5_alike_L18 ye wSh v1 v2 FU 0
set_option maxHeartbeats 4000000 in
set_option maxRecDepth 100000 in
theorem k_X5_alike {l : Launch} {G : GG} {q : Nat → Nat} {fr : va_W}  {yp : Int32} {ye : Int32} {yg : Int32} {bPo : Nat → Int32} {bTb : Nat → Int32} {wSh : Nat → Int64} {wTe : Nat → Int64} {wNx : Nat → Int64} {bOs : Nat → Int32} {bOn : Nat → Int32} {yop : Int32} {bSo : Nat → Int32} {bNu : Nat → Int32} {ytr : Int32} {yiw : Int32} {wMa : Nat → Int64} {wPr : Nat → Int64} {bTp : Nat → Int32} {yln : Int32} {ypl : Int32} {yfa : Int32} {wLi : Nat → Int64} {bSi : Nat → Int32} {yhp : Int32} {yhe : Int32} {yhg : Int32} {wHs : Nat → Int64} {yhi : Int32} {v1 : Int32} {v2 : Int32} {z : Int32}  (h : f_X5_alike ye wSh v1 v2 = some z) : Ct l G yX5_alike cX5_alike 6 (some .int) 2 45 [.ref (q 0), .int v1, .int v2] (mW G q yp ye yg bPo bTb wSh wTe wNx bOs bOn yop bSo bNu ytr yiw wMa wPr bTp yln ypl yfa wLi bSi yhp yhe yhg wHs yhi ++ fr) (some (.int z)) (mW G q yp ye yg bPo bTb wSh wTe wNx bOs bOn yop bSo bNu ytr yiw wMa wPr bTp yln ypl yfa wLi bSi yhp yhe yhg wHs yhi ++ fr) := by
  refine Ct.of (by decide +kernel) (Nat.le_of_ble_eq_true rfl) trivial ?_
  intro p e s m args below meth c Q A ls F hw hA hE hl
  have hx := F.x
  have hb := F.b
  unfold f_X5_alike at h
  obtain ⟨H, hH⟩ : ∃ H, H = s.heap := ⟨_, rfl⟩
  obtain ⟨locs, hlo⟩ : ∃ locs : List Loc, locs = [] := ⟨_, rfl⟩
  rw [← hH, ← hlo] at hw ⊢
  have hl : lv_has ls 6 [(0, .ref (q 0)), (1, .int v1), (2, .int v2)] := hl
  refine lv_iload_n hx hb dX5_alike_0 rfl (lv_at hl 1 rfl) ?_
  obtain ⟨z1, hz1, h⟩ := stB h
  refine ctS (av := [.int v1]) (st0 := ([] : List Value)) (st1 := ([.int z1] : List Value)) F hw hA (k_X5_isShelf hz1) kl_5_174 kd_X5_isShelf rfl ⟨by decide, by decide⟩ hl.1 rfl (Nat.le_of_ble_eq_true rfl) dX5_alike_1 rfl (fun H locs hw => ?_)
  refine lv_if_eq (tgt := 14) hx hb dX5_alike_4 (by decide) (fun c2 => ?_) (fun c2 => ?_)
  · replace h := stT c2 h
    refine lv_iconst (v := -1) hx hb dX5_alike_14 (by decide) ?_
    obtain rfl := Option.some.inj h
    exact hE H locs _ ls hw dX5_alike_15
  · replace h := stF c2 h
    refine lv_iload_n hx hb dX5_alike_7 rfl (lv_at hl 2 rfl) ?_
    obtain ⟨z3, hz3, h⟩ := stB h
    refine ctS (av := [.int v2]) (st0 := ([] : List Value)) (st1 := ([.int z3] : List Value)) F hw hA (k_X5_isShelf hz3) kl_5_174 kd_X5_isShelf rfl ⟨by decide, by decide⟩ hl.1 rfl (Nat.le_of_ble_eq_true rfl) dX5_alike_8 rfl (fun H locs hw => ?_)
    refine lv_if_ne (tgt := 16) hx hb dX5_alike_11 (by decide) (fun c4 => ?_) (fun c4 => ?_)
    · replace h := stF c4 h
      refine lv_iconst (v := 0) hx hb dX5_alike_16 (by decide) ?_
      refine lv_istore_n (lv' := [(3, .int 0), (0, .ref (q 0)), (1, .int v1), (2, .int v2)]) hx hb dX5_alike_17 rfl hl (by decide) rfl (fun ls hl => ?_)
      exact w_X5_alike_L18 F hA  FU _ z h hE H locs ls hw (lv_sub hl [1, 2, 3, 0] rfl)
    · replace h := stT c4 h
      refine lv_iconst (v := -1) hx hb dX5_alike_14 (by decide) ?_
      obtain rfl := Option.some.inj h
      exact hE H locs _ ls hw dX5_alike_15
end
theorem dX5_why_0 : decode cX5_why 0 = .ok (.iload_n 1, 1) := by decide +kernel
theorem dX5_why_1 : decode cX5_why 1 = .ok (.ifCond .lt 13, 3) := by decide +kernel
theorem dX5_why_4 : decode cX5_why 4 = .ok (.iload_n 2, 1) := by decide +kernel
theorem dX5_why_5 : decode cX5_why 5 = .ok (.i2l, 1) := by decide +kernel
theorem dX5_why_6 : decode cX5_why 6 = .ok (.lconst 0, 1) := by decide +kernel
theorem dX5_why_7 : decode cX5_why 7 = .ok (.lconst 1, 1) := by decide +kernel
theorem dX5_why_8 : decode cX5_why 8 = .ok (.invokestatic 90, 3) := by decide +kernel
theorem dX5_why_11 : decode cX5_why 11 = .ok (.ifCond .ne 5, 3) := by decide +kernel
theorem dX5_why_14 : decode cX5_why 14 = .ok (.iconst (-1), 1) := by decide +kernel
theorem dX5_why_15 : decode cX5_why 15 = .ok (.ireturn, 1) := by decide +kernel
theorem dX5_why_16 : decode cX5_why 16 = .ok (.iload_n 1, 1) := by decide +kernel
theorem dX5_why_17 : decode cX5_why 17 = .ok (.aload_n 0, 1) := by decide +kernel
theorem dX5_why_18 : decode cX5_why 18 = .ok (.getfield 154, 3) := by decide +kernel
theorem dX5_why_21 : decode cX5_why 21 = .ok (.if_icmp .lt 8, 3) := by decide +kernel
theorem dX5_why_24 : decode cX5_why 24 = .ok (.bipush (-5), 2) := by decide +kernel
theorem dX5_why_26 : decode cX5_why 26 = .ok (.goto 22, 3) := by decide +kernel
theorem dX5_why_29 : decode cX5_why 29 = .ok (.iload_n 2, 1) := by decide +kernel
theorem dX5_why_30 : decode cX5_why 30 = .ok (.ifCond .ne 12, 3) := by decide +kernel
theorem dX5_why_33 : decode cX5_why 33 = .ok (.aload_n 0, 1) := by decide +kernel
theorem dX5_why_34 : decode cX5_why 34 = .ok (.getfield 34, 3) := by decide +kernel
theorem dX5_why_37 : decode cX5_why 37 = .ok (.iload_n 1, 1) := by decide +kernel
theorem dX5_why_38 : decode cX5_why 38 = .ok (.iaload, 1) := by decide +kernel
theorem dX5_why_39 : decode cX5_why 39 = .ok (.goto 9, 3) := by decide +kernel
theorem dX5_why_42 : decode cX5_why 42 = .ok (.aload_n 0, 1) := by decide +kernel
theorem dX5_why_43 : decode cX5_why 43 = .ok (.getfield 37, 3) := by decide +kernel
theorem dX5_why_46 : decode cX5_why 46 = .ok (.iload_n 1, 1) := by decide +kernel
theorem dX5_why_47 : decode cX5_why 47 = .ok (.iaload, 1) := by decide +kernel
theorem dX5_why_48 : decode cX5_why 48 = .ok (.ireturn, 1) := by decide +kernel
section
variable {p : Program} {l : Launch} {e : Env} {s : State} {m : MethodId} {args : Array Value} {below : List Frame} {meth : Method} {c : Code} {Q : State → Prop} {G : GG} {A : Nat → Prop} {q : Nat → Nat} {fr : va_W}
def f_X5_why (bSo : Nat → Int32) (bNu : Nat → Int32) (ytr : Int32) (v1 : Int32) (v2 : Int32) : Option (Int32) :=
  if v1 < 0 then
  some (-1)
  else
  (f_X5_in v2.toInt64 0 1).bind fun z2 =>
  if z2 = 0 then
  some (-1)
  else
  if v1 < ytr then
  if v2 = 0 then
  if inb v1 8 then
  some (bSo v1.toNatClampNeg)
  else none
  else
  if inb v1 8 then
  some (bNu v1.toNatClampNeg)
  else none
  else
  some (-5)
set_option maxHeartbeats 4000000 in
set_option maxRecDepth 100000 in
theorem k_X5_why {l : Launch} {G : GG} {q : Nat → Nat} {fr : va_W}  {yp : Int32} {ye : Int32} {yg : Int32} {bPo : Nat → Int32} {bTb : Nat → Int32} {wSh : Nat → Int64} {wTe : Nat → Int64} {wNx : Nat → Int64} {bOs : Nat → Int32} {bOn : Nat → Int32} {yop : Int32} {bSo : Nat → Int32} {bNu : Nat → Int32} {ytr : Int32} {yiw : Int32} {wMa : Nat → Int64} {wPr : Nat → Int64} {bTp : Nat → Int32} {yln : Int32} {ypl : Int32} {yfa : Int32} {wLi : Nat → Int64} {bSi : Nat → Int32} {yhp : Int32} {yhe : Int32} {yhg : Int32} {wHs : Nat → Int64} {yhi : Int32} {v1 : Int32} {v2 : Int32} {z : Int32}  (h : f_X5_why bSo bNu ytr v1 v2 = some z) : Ct l G yX5_why cX5_why 3 (some .int) 1 25 [.ref (q 0), .int v1, .int v2] (mW G q yp ye yg bPo bTb wSh wTe wNx bOs bOn yop bSo bNu ytr yiw wMa wPr bTp yln ypl yfa wLi bSi yhp yhe yhg wHs yhi ++ fr) (some (.int z)) (mW G q yp ye yg bPo bTb wSh wTe wNx bOs bOn yop bSo bNu ytr yiw wMa wPr bTp yln ypl yfa wLi bSi yhp yhe yhg wHs yhi ++ fr) := by
  refine Ct.of (by decide +kernel) (Nat.le_of_ble_eq_true rfl) trivial ?_
  intro p e s m args below meth c Q A ls F hw hA hE hl
  have hx := F.x
  have hb := F.b
  unfold f_X5_why at h
  obtain ⟨H, hH⟩ : ∃ H, H = s.heap := ⟨_, rfl⟩
  obtain ⟨locs, hlo⟩ : ∃ locs : List Loc, locs = [] := ⟨_, rfl⟩
  rw [← hH, ← hlo] at hw ⊢
  have hl : lv_has ls 3 [(0, .ref (q 0)), (1, .int v1), (2, .int v2)] := hl
  refine lv_iload_n hx hb dX5_why_0 rfl (lv_at hl 1 rfl) ?_
  refine lv_if_lt (tgt := 14) hx hb dX5_why_1 (by decide) (fun c1 => ?_) (fun c1 => ?_)
  · replace h := stT c1 h
    refine lv_iconst (v := -1) hx hb dX5_why_14 (by decide) ?_
    obtain rfl := Option.some.inj h
    exact hE H locs _ ls hw dX5_why_15
  · replace h := stF c1 h
    refine lv_iload_n hx hb dX5_why_4 rfl (lv_at hl 2 rfl) ?_
    refine lv_i2l (v := v2.toInt64) hx hb dX5_why_5 rfl ?_
    refine lv_lconst (v := 0) hx hb dX5_why_6 (by decide) ?_
    refine lv_lconst (v := 1) hx hb dX5_why_7 (by decide) ?_
    obtain ⟨z2, hz2, h⟩ := stB h
    refine ctS (av := [.long v2.toInt64, .long 0, .long 1]) (st0 := ([] : List Value)) (st1 := ([.int z2] : List Value)) F hw hA (k_X5_in hz2) kl_5_90 kd_X5_in rfl ⟨by decide, by decide⟩ hl.1 rfl (Nat.le_of_ble_eq_true rfl) dX5_why_8 rfl (fun H locs hw => ?_)
    refine lv_if_ne (tgt := 16) hx hb dX5_why_11 (by decide) (fun c3 => ?_) (fun c3 => ?_)
    · replace h := stF c3 h
      refine lv_iload_n hx hb dX5_why_16 rfl (lv_at hl 1 rfl) ?_
      refine lv_aload_n hx hb dX5_why_17 rfl (lv_at hl 0 rfl) ?_
      refine gf_5_154 F hw dX5_why_18 ?_
      refine lv_icmp_lt (tgt := 29) hx hb dX5_why_21 (by decide) (fun c4 => ?_) (fun c4 => ?_)
      · replace h := stT c4 h
        refine lv_iload_n hx hb dX5_why_29 rfl (lv_at hl 2 rfl) ?_
        refine lv_if_ne (tgt := 42) hx hb dX5_why_30 (by decide) (fun c5 => ?_) (fun c5 => ?_)
        · replace h := stF c5 h
          refine lv_aload_n hx hb dX5_why_42 rfl (lv_at hl 0 rfl) ?_
          refine gf_5_37 F hw dX5_why_43 ?_
          refine lv_iload_n hx hb dX5_why_46 rfl (lv_at hl 1 rfl) ?_
          obtain ⟨g6, h⟩ := stG h
          refine al_m9 F hw g6 dX5_why_47 ?_
          obtain rfl := Option.some.inj h
          exact hE H locs _ ls hw dX5_why_48
        · replace h := stT c5 h
          refine lv_aload_n hx hb dX5_why_33 rfl (lv_at hl 0 rfl) ?_
          refine gf_5_34 F hw dX5_why_34 ?_
          refine lv_iload_n hx hb dX5_why_37 rfl (lv_at hl 1 rfl) ?_
          obtain ⟨g7, h⟩ := stG h
          refine al_m8 F hw g7 dX5_why_38 ?_
          refine lv_goto (tgt := 48) hx hb dX5_why_39 (by decide) ?_
          obtain rfl := Option.some.inj h
          exact hE H locs _ ls hw dX5_why_48
      · replace h := stF c4 h
        refine lv_bipush (v := -5) hx hb dX5_why_24 (by decide) ?_
        refine lv_goto (tgt := 48) hx hb dX5_why_26 (by decide) ?_
        obtain rfl := Option.some.inj h
        exact hE H locs _ ls hw dX5_why_48
    · replace h := stT c3 h
      refine lv_iconst (v := -1) hx hb dX5_why_14 (by decide) ?_
      obtain rfl := Option.some.inj h
      exact hE H locs _ ls hw dX5_why_15
end
theorem dX5_feed_0 : decode cX5_feed 0 = .ok (.iload_n 1, 1) := by decide +kernel
theorem dX5_feed_1 : decode cX5_feed 1 = .ok (.i2l, 1) := by decide +kernel
theorem dX5_feed_2 : decode cX5_feed 2 = .ok (.ldc2_w 212, 3) := by decide +kernel
theorem dX5_feed_5 : decode cX5_feed 5 = .ok (.ldc2_w 214, 3) := by decide +kernel
theorem dX5_feed_8 : decode cX5_feed 8 = .ok (.invokestatic 90, 3) := by decide +kernel
theorem dX5_feed_11 : decode cX5_feed 11 = .ok (.ifCond .ne 6, 3) := by decide +kernel
theorem dX5_feed_14 : decode cX5_feed 14 = .ok (.bipush (-2), 2) := by decide +kernel
theorem dX5_feed_16 : decode cX5_feed 16 = .ok (.ireturn, 1) := by decide +kernel
theorem dX5_feed_17 : decode cX5_feed 17 = .ok (.aload_n 0, 1) := by decide +kernel
theorem dX5_feed_18 : decode cX5_feed 18 = .ok (.getfield 216, 3) := by decide +kernel
theorem dX5_feed_21 : decode cX5_feed 21 = .ok (.bipush 80, 2) := by decide +kernel
theorem dX5_feed_23 : decode cX5_feed 23 = .ok (.if_icmp .ne 6, 3) := by decide +kernel
theorem dX5_feed_26 : decode cX5_feed 26 = .ok (.bipush (-4), 2) := by decide +kernel
theorem dX5_feed_28 : decode cX5_feed 28 = .ok (.ireturn, 1) := by decide +kernel
theorem dX5_feed_29 : decode cX5_feed 29 = .ok (.aload_n 0, 1) := by decide +kernel
theorem dX5_feed_30 : decode cX5_feed 30 = .ok (.getfield 46, 3) := by decide +kernel
theorem dX5_feed_33 : decode cX5_feed 33 = .ok (.aload_n 0, 1) := by decide +kernel
theorem dX5_feed_34 : decode cX5_feed 34 = .ok (.getfield 216, 3) := by decide +kernel
theorem dX5_feed_37 : decode cX5_feed 37 = .ok (.iload_n 1, 1) := by decide +kernel
theorem dX5_feed_38 : decode cX5_feed 38 = .ok (.iastore, 1) := by decide +kernel
theorem dX5_feed_39 : decode cX5_feed 39 = .ok (.aload_n 0, 1) := by decide +kernel
theorem dX5_feed_40 : decode cX5_feed 40 = .ok (.dup, 1) := by decide +kernel
theorem dX5_feed_41 : decode cX5_feed 41 = .ok (.getfield 216, 3) := by decide +kernel
theorem dX5_feed_44 : decode cX5_feed 44 = .ok (.iconst 1, 1) := by decide +kernel
theorem dX5_feed_45 : decode cX5_feed 45 = .ok (.iadd, 1) := by decide +kernel
theorem dX5_feed_46 : decode cX5_feed 46 = .ok (.putfield 216, 3) := by decide +kernel
theorem dX5_feed_49 : decode cX5_feed 49 = .ok (.aload_n 0, 1) := by decide +kernel
theorem dX5_feed_50 : decode cX5_feed 50 = .ok (.getfield 216, 3) := by decide +kernel
theorem dX5_feed_53 : decode cX5_feed 53 = .ok (.ireturn, 1) := by decide +kernel
section
variable {p : Program} {l : Launch} {e : Env} {s : State} {m : MethodId} {args : Array Value} {below : List Frame} {meth : Method} {c : Code} {Q : State → Prop} {G : GG} {A : Nat → Prop} {q : Nat → Nat} {fr : va_W}
def f_X5_feed (bTp : Nat → Int32) (yln : Int32) (v1 : Int32) : Option (Int32 × (Nat → Int32) × Int32) :=
  (f_X5_in v1.toInt64 32 126).bind fun z1 =>
  if z1 = 0 then
  some ((-2), bTp, yln)
  else
  if yln = 80 then
  some ((-4), bTp, yln)
  else
  if inb yln 80 then
  some ((yln + 1), (upd bTp yln.toNatClampNeg v1), (yln + 1))
  else none
set_option maxHeartbeats 4000000 in
set_option maxRecDepth 100000 in
theorem k_X5_feed {l : Launch} {G : GG} {q : Nat → Nat} {fr : va_W}  {yp : Int32} {ye : Int32} {yg : Int32} {bPo : Nat → Int32} {bTb : Nat → Int32} {wSh : Nat → Int64} {wTe : Nat → Int64} {wNx : Nat → Int64} {bOs : Nat → Int32} {bOn : Nat → Int32} {yop : Int32} {bSo : Nat → Int32} {bNu : Nat → Int32} {ytr : Int32} {yiw : Int32} {wMa : Nat → Int64} {wPr : Nat → Int64} {bTp : Nat → Int32} {yln : Int32} {ypl : Int32} {yfa : Int32} {wLi : Nat → Int64} {bSi : Nat → Int32} {yhp : Int32} {yhe : Int32} {yhg : Int32} {wHs : Nat → Int64} {yhi : Int32} {v1 : Int32} {z : Int32 × (Nat → Int32) × Int32}  (h : f_X5_feed bTp yln v1 = some z) : Ct l G yX5_feed cX5_feed 2 (some .int) 1 25 [.ref (q 0), .int v1] (mW G q yp ye yg bPo bTb wSh wTe wNx bOs bOn yop bSo bNu ytr yiw wMa wPr bTp yln ypl yfa wLi bSi yhp yhe yhg wHs yhi ++ fr) (some (.int z.1)) (mW G q yp ye yg bPo bTb wSh wTe wNx bOs bOn yop bSo bNu ytr yiw wMa wPr z.2.1 z.2.2 ypl yfa wLi bSi yhp yhe yhg wHs yhi ++ fr) := by
  refine Ct.of (by decide +kernel) (Nat.le_of_ble_eq_true rfl) trivial ?_
  intro p e s m args below meth c Q A ls F hw hA hE hl
  have hx := F.x
  have hb := F.b
  unfold f_X5_feed at h
  obtain ⟨H, hH⟩ : ∃ H, H = s.heap := ⟨_, rfl⟩
  obtain ⟨locs, hlo⟩ : ∃ locs : List Loc, locs = [] := ⟨_, rfl⟩
  rw [← hH, ← hlo] at hw ⊢
  have hl : lv_has ls 2 [(0, .ref (q 0)), (1, .int v1)] := hl
  refine lv_iload_n hx hb dX5_feed_0 rfl (lv_at hl 1 rfl) ?_
  refine lv_i2l (v := v1.toInt64) hx hb dX5_feed_1 rfl ?_
  refine lv_ldc2 (v := 32) hx hb F.ow (F.ts _ kc_5_212) dX5_feed_2 ?_
  refine lv_ldc2 (v := 126) hx hb F.ow (F.ts _ kc_5_214) dX5_feed_5 ?_
  obtain ⟨z1, hz1, h⟩ := stB h
  refine ctS (av := [.long v1.toInt64, .long 32, .long 126]) (st0 := ([] : List Value)) (st1 := ([.int z1] : List Value)) F hw hA (k_X5_in hz1) kl_5_90 kd_X5_in rfl ⟨by decide, by decide⟩ hl.1 rfl (Nat.le_of_ble_eq_true rfl) dX5_feed_8 rfl (fun H locs hw => ?_)
  refine lv_if_ne (tgt := 17) hx hb dX5_feed_11 (by decide) (fun c2 => ?_) (fun c2 => ?_)
  · replace h := stF c2 h
    refine lv_aload_n hx hb dX5_feed_17 rfl (lv_at hl 0 rfl) ?_
    refine gf_5_216 F hw dX5_feed_18 ?_
    refine lv_bipush (v := 80) hx hb dX5_feed_21 (by decide) ?_
    refine lv_icmp_ne (tgt := 29) hx hb dX5_feed_23 (by decide) (fun c3 => ?_) (fun c3 => ?_)
    · replace h := stF c3 h
      refine lv_aload_n hx hb dX5_feed_29 rfl (lv_at hl 0 rfl) ?_
      refine gf_5_46 F hw dX5_feed_30 ?_
      refine lv_aload_n hx hb dX5_feed_33 rfl (lv_at hl 0 rfl) ?_
      refine gf_5_216 F hw dX5_feed_34 ?_
      refine lv_iload_n hx hb dX5_feed_37 rfl (lv_at hl 1 rfl) ?_
      obtain ⟨g4, h⟩ := stG h
      refine as_m12 F hw g4 dX5_feed_38 (fun H locs hw => ?_)
      refine lv_aload_n hx hb dX5_feed_39 rfl (lv_at hl 0 rfl) ?_
      refine lv_dup hx hb dX5_feed_40 rfl ?_
      refine gf_5_216 F hw dX5_feed_41 ?_
      refine lv_iconst (v := 1) hx hb dX5_feed_44 (by decide) ?_
      refine lv_iadd hx hb dX5_feed_45 ?_
      refine pf_5_216 F hw dX5_feed_46 (fun H locs hw => ?_)
      refine lv_aload_n hx hb dX5_feed_49 rfl (lv_at hl 0 rfl) ?_
      refine gf_5_216 F hw dX5_feed_50 ?_
      obtain rfl := Option.some.inj h
      exact hE H locs _ ls hw dX5_feed_53
    · replace h := stT c3 h
      refine lv_bipush (v := -4) hx hb dX5_feed_26 (by decide) ?_
      obtain rfl := Option.some.inj h
      exact hE H locs _ ls hw dX5_feed_28
  · replace h := stT c2 h
    refine lv_bipush (v := -2) hx hb dX5_feed_14 (by decide) ?_
    obtain rfl := Option.some.inj h
    exact hE H locs _ ls hw dX5_feed_16
end
theorem dX5_wipe_0 : decode cX5_wipe 0 = .ok (.aload_n 0, 1) := by decide +kernel
theorem dX5_wipe_1 : decode cX5_wipe 1 = .ok (.getfield 216, 3) := by decide +kernel
theorem dX5_wipe_4 : decode cX5_wipe 4 = .ok (.istore_n 1, 1) := by decide +kernel
theorem dX5_wipe_5 : decode cX5_wipe 5 = .ok (.aload_n 0, 1) := by decide +kernel
theorem dX5_wipe_6 : decode cX5_wipe 6 = .ok (.iconst 0, 1) := by decide +kernel
theorem dX5_wipe_7 : decode cX5_wipe 7 = .ok (.putfield 216, 3) := by decide +kernel
theorem dX5_wipe_10 : decode cX5_wipe 10 = .ok (.iload_n 1, 1) := by decide +kernel
theorem dX5_wipe_11 : decode cX5_wipe 11 = .ok (.ireturn, 1) := by decide +kernel
section
variable {p : Program} {l : Launch} {e : Env} {s : State} {m : MethodId} {args : Array Value} {below : List Frame} {meth : Method} {c : Code} {Q : State → Prop} {G : GG} {A : Nat → Prop} {q : Nat → Nat} {fr : va_W}
def f_X5_wipe (yln : Int32) : Option (Int32 × Int32) :=
  some (yln, 0)
set_option maxHeartbeats 4000000 in
set_option maxRecDepth 100000 in
theorem k_X5_wipe {l : Launch} {G : GG} {q : Nat → Nat} {fr : va_W}  {yp : Int32} {ye : Int32} {yg : Int32} {bPo : Nat → Int32} {bTb : Nat → Int32} {wSh : Nat → Int64} {wTe : Nat → Int64} {wNx : Nat → Int64} {bOs : Nat → Int32} {bOn : Nat → Int32} {yop : Int32} {bSo : Nat → Int32} {bNu : Nat → Int32} {ytr : Int32} {yiw : Int32} {wMa : Nat → Int64} {wPr : Nat → Int64} {bTp : Nat → Int32} {yln : Int32} {ypl : Int32} {yfa : Int32} {wLi : Nat → Int64} {bSi : Nat → Int32} {yhp : Int32} {yhe : Int32} {yhg : Int32} {wHs : Nat → Int64} {yhi : Int32}  {z : Int32 × Int32}  (h : f_X5_wipe yln = some z) : Ct l G yX5_wipe cX5_wipe 2 (some .int) 0 0 [.ref (q 0)] (mW G q yp ye yg bPo bTb wSh wTe wNx bOs bOn yop bSo bNu ytr yiw wMa wPr bTp yln ypl yfa wLi bSi yhp yhe yhg wHs yhi ++ fr) (some (.int z.1)) (mW G q yp ye yg bPo bTb wSh wTe wNx bOs bOn yop bSo bNu ytr yiw wMa wPr bTp z.2 ypl yfa wLi bSi yhp yhe yhg wHs yhi ++ fr) := by
  refine Ct.of (by decide +kernel) (Nat.le_of_ble_eq_true rfl) trivial ?_
  intro p e s m args below meth c Q A ls F hw hA hE hl
  have hx := F.x
  have hb := F.b
  unfold f_X5_wipe at h
  obtain ⟨H, hH⟩ : ∃ H, H = s.heap := ⟨_, rfl⟩
  obtain ⟨locs, hlo⟩ : ∃ locs : List Loc, locs = [] := ⟨_, rfl⟩
  rw [← hH, ← hlo] at hw ⊢
  have hl : lv_has ls 2 [(0, .ref (q 0))] := hl
  refine lv_aload_n hx hb dX5_wipe_0 rfl (lv_at hl 0 rfl) ?_
  refine gf_5_216 F hw dX5_wipe_1 ?_
  refine lv_istore_n (lv' := [(1, .int yln), (0, .ref (q 0))]) hx hb dX5_wipe_4 rfl hl (by decide) rfl (fun ls hl => ?_)
  refine lv_aload_n hx hb dX5_wipe_5 rfl (lv_at hl 1 rfl) ?_
  refine lv_iconst (v := 0) hx hb dX5_wipe_6 (by decide) ?_
  refine pf_5_216 F hw dX5_wipe_7 (fun H locs hw => ?_)
  refine lv_iload_n hx hb dX5_wipe_10 rfl (lv_at hl 0 rfl) ?_
  obtain rfl := Option.some.inj h
  exact hE H locs _ ls hw dX5_wipe_11
end
