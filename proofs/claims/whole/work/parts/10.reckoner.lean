/-! printed by wip/whole/mk.py: the functions that mirror the bytecode, and the contracts over them -/
theorem dX3_enter_0 : decode cX3_enter 0 = .ok (.aload_n 0, 1) := by decide +kernel
theorem dX3_enter_1 : decode cX3_enter 1 = .ok (.getfield 24, 3) := by decide +kernel
theorem dX3_enter_4 : decode cX3_enter 4 = .ok (.iconst 5, 1) := by decide +kernel
theorem dX3_enter_5 : decode cX3_enter 5 = .ok (.if_icmp .lt 4, 3) := by decide +kernel
theorem dX3_enter_8 : decode cX3_enter 8 = .ok (.return_, 1) := by decide +kernel
theorem dX3_enter_9 : decode cX3_enter 9 = .ok (.aload_n 0, 1) := by decide +kernel
theorem dX3_enter_10 : decode cX3_enter 10 = .ok (.getfield 18, 3) := by decide +kernel
theorem dX3_enter_13 : decode cX3_enter 13 = .ok (.aload_n 0, 1) := by decide +kernel
theorem dX3_enter_14 : decode cX3_enter 14 = .ok (.getfield 24, 3) := by decide +kernel
theorem dX3_enter_17 : decode cX3_enter 17 = .ok (.iload_n 1, 1) := by decide +kernel
theorem dX3_enter_18 : decode cX3_enter 18 = .ok (.iastore, 1) := by decide +kernel
theorem dX3_enter_19 : decode cX3_enter 19 = .ok (.aload_n 0, 1) := by decide +kernel
theorem dX3_enter_20 : decode cX3_enter 20 = .ok (.getfield 21, 3) := by decide +kernel
theorem dX3_enter_23 : decode cX3_enter 23 = .ok (.aload_n 0, 1) := by decide +kernel
theorem dX3_enter_24 : decode cX3_enter 24 = .ok (.getfield 24, 3) := by decide +kernel
theorem dX3_enter_27 : decode cX3_enter 27 = .ok (.iload_n 2, 1) := by decide +kernel
theorem dX3_enter_28 : decode cX3_enter 28 = .ok (.iastore, 1) := by decide +kernel
theorem dX3_enter_29 : decode cX3_enter 29 = .ok (.aload_n 0, 1) := by decide +kernel
theorem dX3_enter_30 : decode cX3_enter 30 = .ok (.dup, 1) := by decide +kernel
theorem dX3_enter_31 : decode cX3_enter 31 = .ok (.getfield 24, 3) := by decide +kernel
theorem dX3_enter_34 : decode cX3_enter 34 = .ok (.iconst 1, 1) := by decide +kernel
theorem dX3_enter_35 : decode cX3_enter 35 = .ok (.iadd, 1) := by decide +kernel
theorem dX3_enter_36 : decode cX3_enter 36 = .ok (.putfield 24, 3) := by decide +kernel
theorem dX3_enter_39 : decode cX3_enter 39 = .ok (.return_, 1) := by decide +kernel
section
variable {p : Program} {l : Launch} {e : Env} {s : State} {m : MethodId} {args : Array Value} {below : List Frame} {meth : Method} {c : Code} {Q : State → Prop} {G : GG} {A : Nat → Prop} {q : Nat → Nat} {fr : va_W}
def f_X3_enter (zoc : Int32) (aOs : Nat → Int32) (aOn : Nat → Int32) (v1 : Int32) (v2 : Int32) : Option (Int32 × (Nat → Int32) × (Nat → Int32)) :=
  if zoc < 5 then
  if inb zoc 6 then
  if inb zoc 6 then
  some ((zoc + 1), (upd aOs zoc.toNatClampNeg v1), (upd aOn zoc.toNatClampNeg v2))
  else none
  else none
  else
  some (zoc, aOs, aOn)
set_option maxHeartbeats 4000000 in
set_option maxRecDepth 100000 in
theorem k_X3_enter {l : Launch} {G : GG} {q : Nat → Nat} {fr : va_W}  {zp : Int32} {ze : Int32} {zf : Int32} {zg : Int32} {zn : Int32} {aG : Nat → Int32} {aW : Nat → Int32} {aR : Nat → Int32} {aN : Nat → Int32} {aF : Nat → Int32} {lC : Nat → Int64} {lS : Nat → Int64} {lP : Nat → Int64} {lX : Nat → Int64} {ztc : Int32} {aTs : Nat → Int32} {aTn : Nat → Int32} {zoc : Int32} {aOs : Nat → Int32} {aOn : Nat → Int32} {aTp : Nat → Int32} {zln : Int32} {zpl : Int32} {zfa : Int32} {aSz : Nat → Int32} {zit : Int32} {zip : Int32} {zic : Int32} {zig : Int32} {M : Nat → Nat → Int64} {v1 : Int32} {v2 : Int32} {z : Int32 × (Nat → Int32) × (Nat → Int32)}  (h : f_X3_enter zoc aOs aOn v1 v2 = some z) : Ct l G yX3_enter cX3_enter 3 none 0 0 [.ref (q 10), .int v1, .int v2] (kW G q zp ze zf zg zn aG aW aR aN aF lC lS lP lX ++ (oW G q ztc aTs aTn zoc aOs aOn aTp zln zpl zfa aSz zit zip zic zig M ++ fr)) (none) (kW G q zp ze zf zg zn aG aW aR aN aF lC lS lP lX ++ (oW G q ztc aTs aTn z.1 z.2.1 z.2.2 aTp zln zpl zfa aSz zit zip zic zig M ++ fr)) := by
  refine Ct.of (by decide +kernel) (Nat.le_of_ble_eq_true rfl) trivial ?_
  intro p e s m args below meth c Q A ls F hw hA hE hl
  have hx := F.x
  have hb := F.b
  unfold f_X3_enter at h
  obtain ⟨H, hH⟩ : ∃ H, H = s.heap := ⟨_, rfl⟩
  obtain ⟨locs, hlo⟩ : ∃ locs : List Loc, locs = [] := ⟨_, rfl⟩
  rw [← hH, ← hlo] at hw ⊢
  have hl : lv_has ls 3 [(0, .ref (q 10)), (1, .int v1), (2, .int v2)] := hl
  refine lv_aload_n hx hb dX3_enter_0 rfl (lv_at hl 0 rfl) ?_
  refine gf_3_24 F hw dX3_enter_1 ?_
  refine lv_iconst (v := 5) hx hb dX3_enter_4 (by decide) ?_
  refine lv_icmp_lt (tgt := 9) hx hb dX3_enter_5 (by decide) (fun c1 => ?_) (fun c1 => ?_)
  · replace h := stT c1 h
    refine lv_aload_n hx hb dX3_enter_9 rfl (lv_at hl 0 rfl) ?_
    refine gf_3_18 F hw dX3_enter_10 ?_
    refine lv_aload_n hx hb dX3_enter_13 rfl (lv_at hl 0 rfl) ?_
    refine gf_3_24 F hw dX3_enter_14 ?_
    refine lv_iload_n hx hb dX3_enter_17 rfl (lv_at hl 1 rfl) ?_
    obtain ⟨g2, h⟩ := stG h
    refine as_c13 F hw g2 dX3_enter_18 (fun H locs hw => ?_)
    refine lv_aload_n hx hb dX3_enter_19 rfl (lv_at hl 0 rfl) ?_
    refine gf_3_21 F hw dX3_enter_20 ?_
    refine lv_aload_n hx hb dX3_enter_23 rfl (lv_at hl 0 rfl) ?_
    refine gf_3_24 F hw dX3_enter_24 ?_
    refine lv_iload_n hx hb dX3_enter_27 rfl (lv_at hl 2 rfl) ?_
    obtain ⟨g3, h⟩ := stG h
    refine as_c14 F hw g3 dX3_enter_28 (fun H locs hw => ?_)
    refine lv_aload_n hx hb dX3_enter_29 rfl (lv_at hl 0 rfl) ?_
    refine lv_dup hx hb dX3_enter_30 rfl ?_
    refine gf_3_24 F hw dX3_enter_31 ?_
    refine lv_iconst (v := 1) hx hb dX3_enter_34 (by decide) ?_
    refine lv_iadd hx hb dX3_enter_35 ?_
    refine pf_3_24 F hw dX3_enter_36 (fun H locs hw => ?_)
    obtain rfl := Option.some.inj h
    exact hE H locs _ ls hw dX3_enter_39
  · replace h := stF c1 h
    obtain rfl := Option.some.inj h
    exact hE H locs _ ls hw dX3_enter_8
end
theorem dX3_leave_0 : decode cX3_leave 0 = .ok (.aload_n 0, 1) := by decide +kernel
theorem dX3_leave_1 : decode cX3_leave 1 = .ok (.getfield 24, 3) := by decide +kernel
theorem dX3_leave_4 : decode cX3_leave 4 = .ok (.ifCond .le 13, 3) := by decide +kernel
theorem dX3_leave_7 : decode cX3_leave 7 = .ok (.aload_n 0, 1) := by decide +kernel
theorem dX3_leave_8 : decode cX3_leave 8 = .ok (.dup, 1) := by decide +kernel
theorem dX3_leave_9 : decode cX3_leave 9 = .ok (.getfield 24, 3) := by decide +kernel
theorem dX3_leave_12 : decode cX3_leave 12 = .ok (.iconst 1, 1) := by decide +kernel
theorem dX3_leave_13 : decode cX3_leave 13 = .ok (.isub, 1) := by decide +kernel
theorem dX3_leave_14 : decode cX3_leave 14 = .ok (.putfield 24, 3) := by decide +kernel
theorem dX3_leave_17 : decode cX3_leave 17 = .ok (.return_, 1) := by decide +kernel
section
variable {p : Program} {l : Launch} {e : Env} {s : State} {m : MethodId} {args : Array Value} {below : List Frame} {meth : Method} {c : Code} {Q : State → Prop} {G : GG} {A : Nat → Prop} {q : Nat → Nat} {fr : va_W}
def f_X3_leave (zoc : Int32) : Option (Int32) :=
  if zoc ≤ 0 then
  some zoc
  else
  some (zoc - 1)
set_option maxHeartbeats 4000000 in
set_option maxRecDepth 100000 in
theorem k_X3_leave {l : Launch} {G : GG} {q : Nat → Nat} {fr : va_W}  {zp : Int32} {ze : Int32} {zf : Int32} {zg : Int32} {zn : Int32} {aG : Nat → Int32} {aW : Nat → Int32} {aR : Nat → Int32} {aN : Nat → Int32} {aF : Nat → Int32} {lC : Nat → Int64} {lS : Nat → Int64} {lP : Nat → Int64} {lX : Nat → Int64} {ztc : Int32} {aTs : Nat → Int32} {aTn : Nat → Int32} {zoc : Int32} {aOs : Nat → Int32} {aOn : Nat → Int32} {aTp : Nat → Int32} {zln : Int32} {zpl : Int32} {zfa : Int32} {aSz : Nat → Int32} {zit : Int32} {zip : Int32} {zic : Int32} {zig : Int32} {M : Nat → Nat → Int64}  {z : Int32}  (h : f_X3_leave zoc = some z) : Ct l G yX3_leave cX3_leave 1 none 0 0 [.ref (q 10)] (kW G q zp ze zf zg zn aG aW aR aN aF lC lS lP lX ++ (oW G q ztc aTs aTn zoc aOs aOn aTp zln zpl zfa aSz zit zip zic zig M ++ fr)) (none) (kW G q zp ze zf zg zn aG aW aR aN aF lC lS lP lX ++ (oW G q ztc aTs aTn z aOs aOn aTp zln zpl zfa aSz zit zip zic zig M ++ fr)) := by
  refine Ct.of (by decide +kernel) (Nat.le_of_ble_eq_true rfl) trivial ?_
  intro p e s m args below meth c Q A ls F hw hA hE hl
  have hx := F.x
  have hb := F.b
  unfold f_X3_leave at h
  obtain ⟨H, hH⟩ : ∃ H, H = s.heap := ⟨_, rfl⟩
  obtain ⟨locs, hlo⟩ : ∃ locs : List Loc, locs = [] := ⟨_, rfl⟩
  rw [← hH, ← hlo] at hw ⊢
  have hl : lv_has ls 1 [(0, .ref (q 10))] := hl
  refine lv_aload_n hx hb dX3_leave_0 rfl (lv_at hl 0 rfl) ?_
  refine gf_3_24 F hw dX3_leave_1 ?_
  refine lv_if_le (tgt := 17) hx hb dX3_leave_4 (by decide) (fun c1 => ?_) (fun c1 => ?_)
  · replace h := stT c1 h
    obtain rfl := Option.some.inj h
    exact hE H locs _ ls hw dX3_leave_17
  · replace h := stF c1 h
    refine lv_aload_n hx hb dX3_leave_7 rfl (lv_at hl 0 rfl) ?_
    refine lv_dup hx hb dX3_leave_8 rfl ?_
    refine gf_3_24 F hw dX3_leave_9 ?_
    refine lv_iconst (v := 1) hx hb dX3_leave_12 (by decide) ?_
    refine lv_isub hx hb dX3_leave_13 ?_
    refine pf_3_24 F hw dX3_leave_14 (fun H locs hw => ?_)
    obtain rfl := Option.some.inj h
    exact hE H locs _ ls hw dX3_leave_17
end
theorem dX3_report_0 : decode cX3_report 0 = .ok (.iconst 0, 1) := by decide +kernel
theorem dX3_report_1 : decode cX3_report 1 = .ok (.istore_n 3, 1) := by decide +kernel
theorem dX3_report_2 : decode cX3_report 2 = .ok (.iload_n 3, 1) := by decide +kernel
theorem dX3_report_3 : decode cX3_report 3 = .ok (.aload_n 0, 1) := by decide +kernel
theorem dX3_report_4 : decode cX3_report 4 = .ok (.getfield 24, 3) := by decide +kernel
theorem dX3_report_7 : decode cX3_report 7 = .ok (.if_icmp .ge 33, 3) := by decide +kernel
theorem dX3_report_10 : decode cX3_report 10 = .ok (.aload_n 0, 1) := by decide +kernel
theorem dX3_report_11 : decode cX3_report 11 = .ok (.getfield 11, 3) := by decide +kernel
theorem dX3_report_14 : decode cX3_report 14 = .ok (.iload_n 3, 1) := by decide +kernel
theorem dX3_report_15 : decode cX3_report 15 = .ok (.aload_n 0, 1) := by decide +kernel
theorem dX3_report_16 : decode cX3_report 16 = .ok (.getfield 18, 3) := by decide +kernel
theorem dX3_report_19 : decode cX3_report 19 = .ok (.iload_n 3, 1) := by decide +kernel
theorem dX3_report_20 : decode cX3_report 20 = .ok (.iaload, 1) := by decide +kernel
theorem dX3_report_21 : decode cX3_report 21 = .ok (.iastore, 1) := by decide +kernel
theorem dX3_report_22 : decode cX3_report 22 = .ok (.aload_n 0, 1) := by decide +kernel
theorem dX3_report_23 : decode cX3_report 23 = .ok (.getfield 15, 3) := by decide +kernel
theorem dX3_report_26 : decode cX3_report 26 = .ok (.iload_n 3, 1) := by decide +kernel
theorem dX3_report_27 : decode cX3_report 27 = .ok (.aload_n 0, 1) := by decide +kernel
theorem dX3_report_28 : decode cX3_report 28 = .ok (.getfield 21, 3) := by decide +kernel
theorem dX3_report_31 : decode cX3_report 31 = .ok (.iload_n 3, 1) := by decide +kernel
theorem dX3_report_32 : decode cX3_report 32 = .ok (.iaload, 1) := by decide +kernel
theorem dX3_report_33 : decode cX3_report 33 = .ok (.iastore, 1) := by decide +kernel
theorem dX3_report_34 : decode cX3_report 34 = .ok (.iinc 3 1, 3) := by decide +kernel
theorem dX3_report_37 : decode cX3_report 37 = .ok (.goto (-35), 3) := by decide +kernel
theorem dX3_report_40 : decode cX3_report 40 = .ok (.aload_n 0, 1) := by decide +kernel
theorem dX3_report_41 : decode cX3_report 41 = .ok (.getfield 11, 3) := by decide +kernel
theorem dX3_report_44 : decode cX3_report 44 = .ok (.aload_n 0, 1) := by decide +kernel
theorem dX3_report_45 : decode cX3_report 45 = .ok (.getfield 24, 3) := by decide +kernel
theorem dX3_report_48 : decode cX3_report 48 = .ok (.iload_n 1, 1) := by decide +kernel
theorem dX3_report_49 : decode cX3_report 49 = .ok (.iastore, 1) := by decide +kernel
theorem dX3_report_50 : decode cX3_report 50 = .ok (.aload_n 0, 1) := by decide +kernel
theorem dX3_report_51 : decode cX3_report 51 = .ok (.getfield 15, 3) := by decide +kernel
theorem dX3_report_54 : decode cX3_report 54 = .ok (.aload_n 0, 1) := by decide +kernel
theorem dX3_report_55 : decode cX3_report 55 = .ok (.getfield 24, 3) := by decide +kernel
theorem dX3_report_58 : decode cX3_report 58 = .ok (.iload_n 2, 1) := by decide +kernel
theorem dX3_report_59 : decode cX3_report 59 = .ok (.iastore, 1) := by decide +kernel
theorem dX3_report_60 : decode cX3_report 60 = .ok (.aload_n 0, 1) := by decide +kernel
theorem dX3_report_61 : decode cX3_report 61 = .ok (.aload_n 0, 1) := by decide +kernel
theorem dX3_report_62 : decode cX3_report 62 = .ok (.getfield 24, 3) := by decide +kernel
theorem dX3_report_65 : decode cX3_report 65 = .ok (.iconst 1, 1) := by decide +kernel
theorem dX3_report_66 : decode cX3_report 66 = .ok (.iadd, 1) := by decide +kernel
theorem dX3_report_67 : decode cX3_report 67 = .ok (.putfield 28, 3) := by decide +kernel
theorem dX3_report_70 : decode cX3_report 70 = .ok (.aload_n 0, 1) := by decide +kernel
theorem dX3_report_71 : decode cX3_report 71 = .ok (.iconst 0, 1) := by decide +kernel
theorem dX3_report_72 : decode cX3_report 72 = .ok (.putfield 24, 3) := by decide +kernel
theorem dX3_report_75 : decode cX3_report 75 = .ok (.iconst 0, 1) := by decide +kernel
theorem dX3_report_76 : decode cX3_report 76 = .ok (.ireturn, 1) := by decide +kernel
section
variable {p : Program} {l : Launch} {e : Env} {s : State} {m : MethodId} {args : Array Value} {below : List Frame} {meth : Method} {c : Code} {Q : State → Prop} {G : GG} {A : Nat → Prop} {q : Nat → Nat} {fr : va_W}
def f_X3_report_L2 (aOs : Nat → Int32) (aOn : Nat → Int32) (v1 : Int32) (v2 : Int32) : Nat → Int32 → (Nat → Int32) → (Nat → Int32) → Int32 → Int32 → Option (Int32 × Int32 × (Nat → Int32) × (Nat → Int32) × Int32)
  | 0, _, _, _, _, _ => none
  | fu + 1, ztc, aTs, aTn, zoc, v3 =>
    if zoc ≤ v3 then
    if inb zoc 6 then
    if inb zoc 6 then
    some (0, (zoc + 1), (upd aTs zoc.toNatClampNeg v1), (upd aTn zoc.toNatClampNeg v2), 0)
    else none
    else none
    else
    if inb v3 6 then
    if inb v3 6 then
    if inb v3 6 then
    if inb v3 6 then
    f_X3_report_L2 aOs aOn v1 v2 fu ztc (upd aTs v3.toNatClampNeg (aOs v3.toNatClampNeg)) (upd aTn v3.toNatClampNeg (aOn v3.toNatClampNeg)) zoc (v3 + 1)
    else none
    else none
    else none
    else none
set_option maxHeartbeats 4000000 in
set_option maxRecDepth 100000 in
theorem w_X3_report_L2  {zp : Int32} {ze : Int32} {zf : Int32} {zg : Int32} {zn : Int32} {aG : Nat → Int32} {aW : Nat → Int32} {aR : Nat → Int32} {aN : Nat → Int32} {aF : Nat → Int32} {lC : Nat → Int64} {lS : Nat → Int64} {lP : Nat → Int64} {lX : Nat → Int64} {aOs : Nat → Int32} {aOn : Nat → Int32} {aTp : Nat → Int32} {zln : Int32} {zpl : Int32} {zfa : Int32} {aSz : Nat → Int32} {zit : Int32} {zip : Int32} {zic : Int32} {zig : Int32} {M : Nat → Nat → Int64} {v1 : Int32} {v2 : Int32}  (F : Fx p s m args meth c cX3_report 4 RX3 (some .boolean)) (hA : ∀ q, s.heap.size ≤ q → A q)   : ∀ (fu : Nat) (ztc : Int32) (aTs : Nat → Int32) (aTn : Nat → Int32) (zoc : Int32) (v3 : Int32) (z : Int32 × Int32 × (Nat → Int32) × (Nat → Int32) × Int32), f_X3_report_L2 aOs aOn v1 v2 fu ztc aTs aTn zoc v3 = some z → Ends p l e (rmOf 0 0) s m args below meth c Q cX3_report G A (some .boolean) (some (.int z.1)) (kW G q zp ze zf zg zn aG aW aR aN aF lC lS lP lX ++ (oW G q z.2.1 z.2.2.1 z.2.2.2.1 z.2.2.2.2 aOs aOn aTp zln zpl zfa aSz zit zip zic zig M ++ fr)) → ∀ (H : Heap) (locs : List Loc) (ls : Array Slot), Wd G s A (kW G q zp ze zf zg zn aG aW aR aN aF lC lS lP lX ++ (oW G q ztc aTs aTn zoc aOs aOn aTp zln zpl zfa aSz zit zip zic zig M ++ fr)) H locs → lv_has ls 4 [(0, .ref (q 10)), (1, .int v1), (2, .int v2), (3, .int v3)] → W p l e (rmOf 0 0) s m args below meth c H locs 0 0 Q (F0 m 2 ls []) := by
  have hx := F.x
  have hb := F.b
  intro fu
  induction fu with
  | zero =>
    intro ztc aTs aTn zoc v3 z h
    cases (h : none = some z)
  | succ fu ih =>
    intro ztc aTs aTn zoc v3 z h hE H locs ls hw hl
    rw [f_X3_report_L2] at h
    refine lv_iload_n hx hb dX3_report_2 rfl (lv_at hl 3 rfl) ?_
    refine lv_aload_n hx hb dX3_report_3 rfl (lv_at hl 0 rfl) ?_
    refine gf_3_24 F hw dX3_report_4 ?_
    refine lv_icmp_ge (tgt := 40) hx hb dX3_report_7 (by decide) (fun c1 => ?_) (fun c1 => ?_)
    · replace h := stT c1 h
      refine lv_aload_n hx hb dX3_report_40 rfl (lv_at hl 0 rfl) ?_
      refine gf_3_11 F hw dX3_report_41 ?_
      refine lv_aload_n hx hb dX3_report_44 rfl (lv_at hl 0 rfl) ?_
      refine gf_3_24 F hw dX3_report_45 ?_
      refine lv_iload_n hx hb dX3_report_48 rfl (lv_at hl 1 rfl) ?_
      obtain ⟨g2, h⟩ := stG h
      refine as_c11 F hw g2 dX3_report_49 (fun H locs hw => ?_)
      refine lv_aload_n hx hb dX3_report_50 rfl (lv_at hl 0 rfl) ?_
      refine gf_3_15 F hw dX3_report_51 ?_
      refine lv_aload_n hx hb dX3_report_54 rfl (lv_at hl 0 rfl) ?_
      refine gf_3_24 F hw dX3_report_55 ?_
      refine lv_iload_n hx hb dX3_report_58 rfl (lv_at hl 2 rfl) ?_
      obtain ⟨g3, h⟩ := stG h
      refine as_c12 F hw g3 dX3_report_59 (fun H locs hw => ?_)
      refine lv_aload_n hx hb dX3_report_60 rfl (lv_at hl 0 rfl) ?_
      refine lv_aload_n hx hb dX3_report_61 rfl (lv_at hl 0 rfl) ?_
      refine gf_3_24 F hw dX3_report_62 ?_
      refine lv_iconst (v := 1) hx hb dX3_report_65 (by decide) ?_
      refine lv_iadd hx hb dX3_report_66 ?_
      refine pf_3_28 F hw dX3_report_67 (fun H locs hw => ?_)
      refine lv_aload_n hx hb dX3_report_70 rfl (lv_at hl 0 rfl) ?_
      refine lv_iconst (v := 0) hx hb dX3_report_71 (by decide) ?_
      refine pf_3_24 F hw dX3_report_72 (fun H locs hw => ?_)
      refine lv_iconst (v := 0) hx hb dX3_report_75 (by decide) ?_
      obtain rfl := Option.some.inj h
      exact hE H locs _ ls hw (Or.inl rfl) dX3_report_76
    · replace h := stF c1 h
      refine lv_aload_n hx hb dX3_report_10 rfl (lv_at hl 0 rfl) ?_
      refine gf_3_11 F hw dX3_report_11 ?_
      refine lv_iload_n hx hb dX3_report_14 rfl (lv_at hl 3 rfl) ?_
      refine lv_aload_n hx hb dX3_report_15 rfl (lv_at hl 0 rfl) ?_
      refine gf_3_18 F hw dX3_report_16 ?_
      refine lv_iload_n hx hb dX3_report_19 rfl (lv_at hl 3 rfl) ?_
      obtain ⟨g4, h⟩ := stG h
      refine al_c13 F hw g4 dX3_report_20 ?_
      obtain ⟨g5, h⟩ := stG h
      refine as_c11 F hw g5 dX3_report_21 (fun H locs hw => ?_)
      refine lv_aload_n hx hb dX3_report_22 rfl (lv_at hl 0 rfl) ?_
      refine gf_3_15 F hw dX3_report_23 ?_
      refine lv_iload_n hx hb dX3_report_26 rfl (lv_at hl 3 rfl) ?_
      refine lv_aload_n hx hb dX3_report_27 rfl (lv_at hl 0 rfl) ?_
      refine gf_3_21 F hw dX3_report_28 ?_
      refine lv_iload_n hx hb dX3_report_31 rfl (lv_at hl 3 rfl) ?_
      obtain ⟨g6, h⟩ := stG h
      refine al_c14 F hw g6 dX3_report_32 ?_
      obtain ⟨g7, h⟩ := stG h
      refine as_c12 F hw g7 dX3_report_33 (fun H locs hw => ?_)
      refine lv_iinc (v := (v3 + 1)) (lv' := [(3, .int (v3 + 1)), (0, .ref (q 10)), (1, .int v1), (2, .int v2)]) hx hb dX3_report_34 hl (k := 3) rfl rfl (by decide) rfl (fun ls hl => ?_)
      refine lv_goto (tgt := 2) hx hb dX3_report_37 (by decide) ?_
      exact ih _ _ _ _ _ z h hE H locs ls hw (lv_sub hl [1, 2, 3, 0] rfl)
def f_X3_report (ztc : Int32) (aTs : Nat → Int32) (aTn : Nat → Int32) (zoc : Int32) (aOs : Nat → Int32) (aOn : Nat → Int32) (v1 : Int32) (v2 : Int32) : Option (Int32 × Int32 × (Nat → Int32) × (Nat → Int32) × Int32) :=
  f_X3_report_L2 aOs aOn v1 v2 FU ztc aTs aTn zoc 0
set_option maxHeartbeats 4000000 in
set_option maxRecDepth 100000 in
theorem k_X3_report {l : Launch} {G : GG} {q : Nat → Nat} {fr : va_W}  {zp : Int32} {ze : Int32} {zf : Int32} {zg : Int32} {zn : Int32} {aG : Nat → Int32} {aW : Nat → Int32} {aR : Nat → Int32} {aN : Nat → Int32} {aF : Nat → Int32} {lC : Nat → Int64} {lS : Nat → Int64} {lP : Nat → Int64} {lX : Nat → Int64} {ztc : Int32} {aTs : Nat → Int32} {aTn : Nat → Int32} {zoc : Int32} {aOs : Nat → Int32} {aOn : Nat → Int32} {aTp : Nat → Int32} {zln : Int32} {zpl : Int32} {zfa : Int32} {aSz : Nat → Int32} {zit : Int32} {zip : Int32} {zic : Int32} {zig : Int32} {M : Nat → Nat → Int64} {v1 : Int32} {v2 : Int32} {z : Int32 × Int32 × (Nat → Int32) × (Nat → Int32) × Int32}  (h : f_X3_report ztc aTs aTn zoc aOs aOn v1 v2 = some z) : Ct l G yX3_report cX3_report 4 (some .boolean) 0 0 [.ref (q 10), .int v1, .int v2] (kW G q zp ze zf zg zn aG aW aR aN aF lC lS lP lX ++ (oW G q ztc aTs aTn zoc aOs aOn aTp zln zpl zfa aSz zit zip zic zig M ++ fr)) (some (.int z.1)) (kW G q zp ze zf zg zn aG aW aR aN aF lC lS lP lX ++ (oW G q z.2.1 z.2.2.1 z.2.2.2.1 z.2.2.2.2 aOs aOn aTp zln zpl zfa aSz zit zip zic zig M ++ fr)) := by
  refine Ct.of (by decide +kernel) (Nat.le_of_ble_eq_true rfl) trivial ?_
  intro p e s m args below meth c Q A ls F hw hA hE hl
  have hx := F.x
  have hb := F.b
  unfold f_X3_report at h
  obtain ⟨H, hH⟩ : ∃ H, H = s.heap := ⟨_, rfl⟩
  obtain ⟨locs, hlo⟩ : ∃ locs : List Loc, locs = [] := ⟨_, rfl⟩
  rw [← hH, ← hlo] at hw ⊢
  have hl : lv_has ls 4 [(0, .ref (q 10)), (1, .int v1), (2, .int v2)] := hl
  refine lv_iconst (v := 0) hx hb dX3_report_0 (by decide) ?_
  refine lv_istore_n (lv' := [(3, .int 0), (0, .ref (q 10)), (1, .int v1), (2, .int v2)]) hx hb dX3_report_1 rfl hl (by decide) rfl (fun ls hl => ?_)
  exact w_X3_report_L2 F hA  FU _ _ _ _ _ z h hE H locs ls hw (lv_sub hl [1, 2, 3, 0] rfl)
end
theorem dX2_sumFits_0 : decode cX2_sumFits 0 = .ok (.lload_n 0, 1) := by decide +kernel
theorem dX2_sumFits_1 : decode cX2_sumFits 1 = .ok (.lload_n 2, 1) := by decide +kernel
theorem dX2_sumFits_2 : decode cX2_sumFits 2 = .ok (.ladd, 1) := by decide +kernel
theorem dX2_sumFits_3 : decode cX2_sumFits 3 = .ok (.lstore 4, 2) := by decide +kernel
theorem dX2_sumFits_5 : decode cX2_sumFits 5 = .ok (.lload_n 0, 1) := by decide +kernel
theorem dX2_sumFits_6 : decode cX2_sumFits 6 = .ok (.lload 4, 2) := by decide +kernel
theorem dX2_sumFits_8 : decode cX2_sumFits 8 = .ok (.lxor, 1) := by decide +kernel
theorem dX2_sumFits_9 : decode cX2_sumFits 9 = .ok (.lload_n 2, 1) := by decide +kernel
theorem dX2_sumFits_10 : decode cX2_sumFits 10 = .ok (.lload 4, 2) := by decide +kernel
theorem dX2_sumFits_12 : decode cX2_sumFits 12 = .ok (.lxor, 1) := by decide +kernel
theorem dX2_sumFits_13 : decode cX2_sumFits 13 = .ok (.land, 1) := by decide +kernel
theorem dX2_sumFits_14 : decode cX2_sumFits 14 = .ok (.lconst 0, 1) := by decide +kernel
theorem dX2_sumFits_15 : decode cX2_sumFits 15 = .ok (.lcmp, 1) := by decide +kernel
theorem dX2_sumFits_16 : decode cX2_sumFits 16 = .ok (.ifCond .lt 7, 3) := by decide +kernel
theorem dX2_sumFits_19 : decode cX2_sumFits 19 = .ok (.iconst 1, 1) := by decide +kernel
theorem dX2_sumFits_20 : decode cX2_sumFits 20 = .ok (.goto 4, 3) := by decide +kernel
theorem dX2_sumFits_23 : decode cX2_sumFits 23 = .ok (.iconst 0, 1) := by decide +kernel
theorem dX2_sumFits_24 : decode cX2_sumFits 24 = .ok (.ireturn, 1) := by decide +kernel
section
variable {p : Program} {l : Launch} {e : Env} {s : State} {m : MethodId} {args : Array Value} {below : List Frame} {meth : Method} {c : Code} {Q : State → Prop} {G : GG} {A : Nat → Prop} {q : Nat → Nat} {fr : va_W}
def f_X2_sumFits (v0 : Int64) (v2 : Int64) : Option (Int32) :=
  if (lg_cmp ((v0 ^^^ (v0 + v2)) &&& (v2 ^^^ (v0 + v2))) 0) < 0 then
  some 0
  else
  some 1
set_option maxHeartbeats 4000000 in
set_option maxRecDepth 100000 in
theorem k_X2_sumFits {l : Launch} {G : GG} {fr : va_W}   {v0 : Int64} {v2 : Int64} {z : Int32}  (h : f_X2_sumFits v0 v2 = some z) : Ct l G yX2_sumFits cX2_sumFits 6 (some .boolean) 0 0 [.long v0, .long v2] fr (some (.int z)) fr := by
  refine Ct.of (by decide +kernel) (Nat.le_of_ble_eq_true rfl) trivial ?_
  intro p e s m args below meth c Q A ls F hw hA hE hl
  have hx := F.x
  have hb := F.b
  unfold f_X2_sumFits at h
  obtain ⟨H, hH⟩ : ∃ H, H = s.heap := ⟨_, rfl⟩
  obtain ⟨locs, hlo⟩ : ∃ locs : List Loc, locs = [] := ⟨_, rfl⟩
  rw [← hH, ← hlo] at hw ⊢
  have hl : lv_has ls 6 [(0, .long v0), (2, .long v2)] := hl
  refine lv_lload_n hx hb dX2_sumFits_0 rfl (lv_at hl 0 rfl) ?_
  refine lv_lload_n hx hb dX2_sumFits_1 rfl (lv_at hl 1 rfl) ?_
  refine lv_ladd hx hb dX2_sumFits_2 ?_
  refine lv_lstore (lv' := [(4, .long (v0 + v2)), (0, .long v0), (2, .long v2)]) hx hb dX2_sumFits_3 hl (by decide) rfl (fun ls hl => ?_)
  refine lv_lload_n hx hb dX2_sumFits_5 rfl (lv_at hl 1 rfl) ?_
  refine lv_lload hx hb dX2_sumFits_6 (lv_at hl 0 rfl) ?_
  refine lv_lxor hx hb dX2_sumFits_8 ?_
  refine lv_lload_n hx hb dX2_sumFits_9 rfl (lv_at hl 2 rfl) ?_
  refine lv_lload hx hb dX2_sumFits_10 (lv_at hl 0 rfl) ?_
  refine lv_lxor hx hb dX2_sumFits_12 ?_
  refine lv_land hx hb dX2_sumFits_13 ?_
  refine lv_lconst (v := 0) hx hb dX2_sumFits_14 (by decide) ?_
  refine W.lcmp hx hb dX2_sumFits_15 ?_
  refine lv_if_lt (tgt := 23) hx hb dX2_sumFits_16 (by decide) (fun c1 => ?_) (fun c1 => ?_)
  · replace h := stT c1 h
    refine lv_iconst (v := 0) hx hb dX2_sumFits_23 (by decide) ?_
    obtain rfl := Option.some.inj h
    exact hE H locs _ ls hw (Or.inl rfl) dX2_sumFits_24
  · replace h := stF c1 h
    refine lv_iconst (v := 1) hx hb dX2_sumFits_19 (by decide) ?_
    refine lv_goto (tgt := 24) hx hb dX2_sumFits_20 (by decide) ?_
    obtain rfl := Option.some.inj h
    exact hE H locs _ ls hw (Or.inr rfl) dX2_sumFits_24
end
theorem dX2_differenceFits_0 : decode cX2_differenceFits 0 = .ok (.lload_n 0, 1) := by decide +kernel
theorem dX2_differenceFits_1 : decode cX2_differenceFits 1 = .ok (.lload_n 2, 1) := by decide +kernel
theorem dX2_differenceFits_2 : decode cX2_differenceFits 2 = .ok (.lsub, 1) := by decide +kernel
theorem dX2_differenceFits_3 : decode cX2_differenceFits 3 = .ok (.lstore 4, 2) := by decide +kernel
theorem dX2_differenceFits_5 : decode cX2_differenceFits 5 = .ok (.lload_n 0, 1) := by decide +kernel
theorem dX2_differenceFits_6 : decode cX2_differenceFits 6 = .ok (.lload_n 2, 1) := by decide +kernel
theorem dX2_differenceFits_7 : decode cX2_differenceFits 7 = .ok (.lxor, 1) := by decide +kernel
theorem dX2_differenceFits_8 : decode cX2_differenceFits 8 = .ok (.lload_n 0, 1) := by decide +kernel
theorem dX2_differenceFits_9 : decode cX2_differenceFits 9 = .ok (.lload 4, 2) := by decide +kernel
theorem dX2_differenceFits_11 : decode cX2_differenceFits 11 = .ok (.lxor, 1) := by decide +kernel
theorem dX2_differenceFits_12 : decode cX2_differenceFits 12 = .ok (.land, 1) := by decide +kernel
theorem dX2_differenceFits_13 : decode cX2_differenceFits 13 = .ok (.lconst 0, 1) := by decide +kernel
theorem dX2_differenceFits_14 : decode cX2_differenceFits 14 = .ok (.lcmp, 1) := by decide +kernel
theorem dX2_differenceFits_15 : decode cX2_differenceFits 15 = .ok (.ifCond .lt 7, 3) := by decide +kernel
theorem dX2_differenceFits_18 : decode cX2_differenceFits 18 = .ok (.iconst 1, 1) := by decide +kernel
theorem dX2_differenceFits_19 : decode cX2_differenceFits 19 = .ok (.goto 4, 3) := by decide +kernel
theorem dX2_differenceFits_22 : decode cX2_differenceFits 22 = .ok (.iconst 0, 1) := by decide +kernel
theorem dX2_differenceFits_23 : decode cX2_differenceFits 23 = .ok (.ireturn, 1) := by decide +kernel
section
variable {p : Program} {l : Launch} {e : Env} {s : State} {m : MethodId} {args : Array Value} {below : List Frame} {meth : Method} {c : Code} {Q : State → Prop} {G : GG} {A : Nat → Prop} {q : Nat → Nat} {fr : va_W}
def f_X2_differenceFits (v0 : Int64) (v2 : Int64) : Option (Int32) :=
  if (lg_cmp ((v0 ^^^ v2) &&& (v0 ^^^ (v0 - v2))) 0) < 0 then
  some 0
  else
  some 1
set_option maxHeartbeats 4000000 in
set_option maxRecDepth 100000 in
theorem k_X2_differenceFits {l : Launch} {G : GG} {fr : va_W}   {v0 : Int64} {v2 : Int64} {z : Int32}  (h : f_X2_differenceFits v0 v2 = some z) : Ct l G yX2_differenceFits cX2_differenceFits 6 (some .boolean) 0 0 [.long v0, .long v2] fr (some (.int z)) fr := by
  refine Ct.of (by decide +kernel) (Nat.le_of_ble_eq_true rfl) trivial ?_
  intro p e s m args below meth c Q A ls F hw hA hE hl
  have hx := F.x
  have hb := F.b
  unfold f_X2_differenceFits at h
  obtain ⟨H, hH⟩ : ∃ H, H = s.heap := ⟨_, rfl⟩
  obtain ⟨locs, hlo⟩ : ∃ locs : List Loc, locs = [] := ⟨_, rfl⟩
  rw [← hH, ← hlo] at hw ⊢
  have hl : lv_has ls 6 [(0, .long v0), (2, .long v2)] := hl
  refine lv_lload_n hx hb dX2_differenceFits_0 rfl (lv_at hl 0 rfl) ?_
  refine lv_lload_n hx hb dX2_differenceFits_1 rfl (lv_at hl 1 rfl) ?_
  refine lv_lsub hx hb dX2_differenceFits_2 ?_
  refine lv_lstore (lv' := [(4, .long (v0 - v2)), (0, .long v0), (2, .long v2)]) hx hb dX2_differenceFits_3 hl (by decide) rfl (fun ls hl => ?_)
  refine lv_lload_n hx hb dX2_differenceFits_5 rfl (lv_at hl 1 rfl) ?_
  refine lv_lload_n hx hb dX2_differenceFits_6 rfl (lv_at hl 2 rfl) ?_
  refine lv_lxor hx hb dX2_differenceFits_7 ?_
  refine lv_lload_n hx hb dX2_differenceFits_8 rfl (lv_at hl 1 rfl) ?_
  refine lv_lload hx hb dX2_differenceFits_9 (lv_at hl 0 rfl) ?_
  refine lv_lxor hx hb dX2_differenceFits_11 ?_
  refine lv_land hx hb dX2_differenceFits_12 ?_
  refine lv_lconst (v := 0) hx hb dX2_differenceFits_13 (by decide) ?_
  refine W.lcmp hx hb dX2_differenceFits_14 ?_
  refine lv_if_lt (tgt := 22) hx hb dX2_differenceFits_15 (by decide) (fun c1 => ?_) (fun c1 => ?_)
  · replace h := stT c1 h
    refine lv_iconst (v := 0) hx hb dX2_differenceFits_22 (by decide) ?_
    obtain rfl := Option.some.inj h
    exact hE H locs _ ls hw (Or.inl rfl) dX2_differenceFits_23
  · replace h := stF c1 h
    refine lv_iconst (v := 1) hx hb dX2_differenceFits_18 (by decide) ?_
    refine lv_goto (tgt := 23) hx hb dX2_differenceFits_19 (by decide) ?_
    obtain rfl := Option.some.inj h
    exact hE H locs _ ls hw (Or.inr rfl) dX2_differenceFits_23
end
theorem dX2_productFits_0 : decode cX2_productFits 0 = .ok (.lload_n 2, 1) := by decide +kernel
theorem dX2_productFits_1 : decode cX2_productFits 1 = .ok (.lconst 0, 1) := by decide +kernel
theorem dX2_productFits_2 : decode cX2_productFits 2 = .ok (.lcmp, 1) := by decide +kernel
theorem dX2_productFits_3 : decode cX2_productFits 3 = .ok (.ifCond .ne 5, 3) := by decide +kernel
theorem dX2_productFits_6 : decode cX2_productFits 6 = .ok (.iconst 1, 1) := by decide +kernel
theorem dX2_productFits_7 : decode cX2_productFits 7 = .ok (.ireturn, 1) := by decide +kernel
theorem dX2_productFits_8 : decode cX2_productFits 8 = .ok (.lload_n 2, 1) := by decide +kernel
theorem dX2_productFits_9 : decode cX2_productFits 9 = .ok (.ldc2_w 102, 3) := by decide +kernel
theorem dX2_productFits_12 : decode cX2_productFits 12 = .ok (.lcmp, 1) := by decide +kernel
theorem dX2_productFits_13 : decode cX2_productFits 13 = .ok (.ifCond .ne 17, 3) := by decide +kernel
theorem dX2_productFits_16 : decode cX2_productFits 16 = .ok (.lload_n 0, 1) := by decide +kernel
theorem dX2_productFits_17 : decode cX2_productFits 17 = .ok (.ldc2_w 96, 3) := by decide +kernel
theorem dX2_productFits_20 : decode cX2_productFits 20 = .ok (.lcmp, 1) := by decide +kernel
theorem dX2_productFits_21 : decode cX2_productFits 21 = .ok (.ifCond .eq 7, 3) := by decide +kernel
theorem dX2_productFits_24 : decode cX2_productFits 24 = .ok (.iconst 1, 1) := by decide +kernel
theorem dX2_productFits_25 : decode cX2_productFits 25 = .ok (.goto 4, 3) := by decide +kernel
theorem dX2_productFits_28 : decode cX2_productFits 28 = .ok (.iconst 0, 1) := by decide +kernel
theorem dX2_productFits_29 : decode cX2_productFits 29 = .ok (.ireturn, 1) := by decide +kernel
theorem dX2_productFits_30 : decode cX2_productFits 30 = .ok (.lload_n 0, 1) := by decide +kernel
theorem dX2_productFits_31 : decode cX2_productFits 31 = .ok (.lload_n 2, 1) := by decide +kernel
theorem dX2_productFits_32 : decode cX2_productFits 32 = .ok (.lmul, 1) := by decide +kernel
theorem dX2_productFits_33 : decode cX2_productFits 33 = .ok (.lload_n 2, 1) := by decide +kernel
theorem dX2_productFits_34 : decode cX2_productFits 34 = .ok (.ldiv, 1) := by decide +kernel
theorem dX2_productFits_35 : decode cX2_productFits 35 = .ok (.lload_n 0, 1) := by decide +kernel
theorem dX2_productFits_36 : decode cX2_productFits 36 = .ok (.lcmp, 1) := by decide +kernel
theorem dX2_productFits_37 : decode cX2_productFits 37 = .ok (.ifCond .ne 7, 3) := by decide +kernel
theorem dX2_productFits_40 : decode cX2_productFits 40 = .ok (.iconst 1, 1) := by decide +kernel
theorem dX2_productFits_41 : decode cX2_productFits 41 = .ok (.goto 4, 3) := by decide +kernel
theorem dX2_productFits_44 : decode cX2_productFits 44 = .ok (.iconst 0, 1) := by decide +kernel
theorem dX2_productFits_45 : decode cX2_productFits 45 = .ok (.ireturn, 1) := by decide +kernel
section
variable {p : Program} {l : Launch} {e : Env} {s : State} {m : MethodId} {args : Array Value} {below : List Frame} {meth : Method} {c : Code} {Q : State → Prop} {G : GG} {A : Nat → Prop} {q : Nat → Nat} {fr : va_W}
def f_X2_productFits (v0 : Int64) (v2 : Int64) : Option (Int32) :=
  if (lg_cmp v2 0) = 0 then
  some 1
  else
  if (lg_cmp v2 (-1)) = 0 then
  if (lg_cmp v0 (-9223372036854775808)) = 0 then
  some 0
  else
  some 1
  else
  if v2 = 0 then none else
  if (lg_cmp ((v0 * v2) / v2) v0) = 0 then
  some 1
  else
  some 0
set_option maxHeartbeats 4000000 in
set_option maxRecDepth 100000 in
theorem k_X2_productFits {l : Launch} {G : GG} {fr : va_W}   {v0 : Int64} {v2 : Int64} {z : Int32}  (h : f_X2_productFits v0 v2 = some z) : Ct l G yX2_productFits cX2_productFits 4 (some .boolean) 0 0 [.long v0, .long v2] fr (some (.int z)) fr := by
  refine Ct.of (by decide +kernel) (Nat.le_of_ble_eq_true rfl) trivial ?_
  intro p e s m args below meth c Q A ls F hw hA hE hl
  have hx := F.x
  have hb := F.b
  unfold f_X2_productFits at h
  obtain ⟨H, hH⟩ : ∃ H, H = s.heap := ⟨_, rfl⟩
  obtain ⟨locs, hlo⟩ : ∃ locs : List Loc, locs = [] := ⟨_, rfl⟩
  rw [← hH, ← hlo] at hw ⊢
  have hl : lv_has ls 4 [(0, .long v0), (2, .long v2)] := hl
  refine lv_lload_n hx hb dX2_productFits_0 rfl (lv_at hl 1 rfl) ?_
  refine lv_lconst (v := 0) hx hb dX2_productFits_1 (by decide) ?_
  refine W.lcmp hx hb dX2_productFits_2 ?_
  refine lv_if_ne (tgt := 8) hx hb dX2_productFits_3 (by decide) (fun c1 => ?_) (fun c1 => ?_)
  · replace h := stF c1 h
    refine lv_lload_n hx hb dX2_productFits_8 rfl (lv_at hl 1 rfl) ?_
    refine lv_ldc2 (v := -1) hx hb F.ow (F.ts _ kc_2_102) dX2_productFits_9 ?_
    refine W.lcmp hx hb dX2_productFits_12 ?_
    refine lv_if_ne (tgt := 30) hx hb dX2_productFits_13 (by decide) (fun c2 => ?_) (fun c2 => ?_)
    · replace h := stF c2 h
      refine lv_lload_n hx hb dX2_productFits_30 rfl (lv_at hl 0 rfl) ?_
      refine lv_lload_n hx hb dX2_productFits_31 rfl (lv_at hl 1 rfl) ?_
      refine lv_lmul hx hb dX2_productFits_32 ?_
      refine lv_lload_n hx hb dX2_productFits_33 rfl (lv_at hl 1 rfl) ?_
      obtain ⟨g3, h⟩ := stD h
      refine lv_ldiv hx hb dX2_productFits_34 g3 ?_
      refine lv_lload_n hx hb dX2_productFits_35 rfl (lv_at hl 0 rfl) ?_
      refine W.lcmp hx hb dX2_productFits_36 ?_
      refine lv_if_ne (tgt := 44) hx hb dX2_productFits_37 (by decide) (fun c4 => ?_) (fun c4 => ?_)
      · replace h := stF c4 h
        refine lv_iconst (v := 0) hx hb dX2_productFits_44 (by decide) ?_
        obtain rfl := Option.some.inj h
        exact hE H locs _ ls hw (Or.inl rfl) dX2_productFits_45
      · replace h := stT c4 h
        refine lv_iconst (v := 1) hx hb dX2_productFits_40 (by decide) ?_
        refine lv_goto (tgt := 45) hx hb dX2_productFits_41 (by decide) ?_
        obtain rfl := Option.some.inj h
        exact hE H locs _ ls hw (Or.inr rfl) dX2_productFits_45
    · replace h := stT c2 h
      refine lv_lload_n hx hb dX2_productFits_16 rfl (lv_at hl 0 rfl) ?_
      refine lv_ldc2 (v := -9223372036854775808) hx hb F.ow (F.ts _ kc_2_96) dX2_productFits_17 ?_
      refine W.lcmp hx hb dX2_productFits_20 ?_
      refine lv_if_eq (tgt := 28) hx hb dX2_productFits_21 (by decide) (fun c5 => ?_) (fun c5 => ?_)
      · replace h := stT c5 h
        refine lv_iconst (v := 0) hx hb dX2_productFits_28 (by decide) ?_
        obtain rfl := Option.some.inj h
        exact hE H locs _ ls hw (Or.inl rfl) dX2_productFits_29
      · replace h := stF c5 h
        refine lv_iconst (v := 1) hx hb dX2_productFits_24 (by decide) ?_
        refine lv_goto (tgt := 29) hx hb dX2_productFits_25 (by decide) ?_
        obtain rfl := Option.some.inj h
        exact hE H locs _ ls hw (Or.inr rfl) dX2_productFits_29
  · replace h := stT c1 h
    refine lv_iconst (v := 1) hx hb dX2_productFits_6 (by decide) ?_
    obtain rfl := Option.some.inj h
    exact hE H locs _ ls hw (Or.inr rfl) dX2_productFits_7
end
theorem dX2_sum_0 : decode cX2_sum 0 = .ok (.iconst 0, 1) := by decide +kernel
theorem dX2_sum_1 : decode cX2_sum 1 = .ok (.istore 4, 2) := by decide +kernel
theorem dX2_sum_3 : decode cX2_sum 3 = .ok (.iload 4, 2) := by decide +kernel
theorem dX2_sum_5 : decode cX2_sum 5 = .ok (.aload_n 0, 1) := by decide +kernel
theorem dX2_sum_6 : decode cX2_sum 6 = .ok (.getfield 21, 3) := by decide +kernel
theorem dX2_sum_9 : decode cX2_sum 9 = .ok (.getfield 29, 3) := by decide +kernel
theorem dX2_sum_12 : decode cX2_sum 12 = .ok (.if_icmp .ge 50, 3) := by decide +kernel
theorem dX2_sum_15 : decode cX2_sum 15 = .ok (.aload_n 1, 1) := by decide +kernel
theorem dX2_sum_16 : decode cX2_sum 16 = .ok (.iload 4, 2) := by decide +kernel
theorem dX2_sum_18 : decode cX2_sum 18 = .ok (.laload, 1) := by decide +kernel
theorem dX2_sum_19 : decode cX2_sum 19 = .ok (.aload_n 2, 1) := by decide +kernel
theorem dX2_sum_20 : decode cX2_sum 20 = .ok (.iload 4, 2) := by decide +kernel
theorem dX2_sum_22 : decode cX2_sum 22 = .ok (.laload, 1) := by decide +kernel
theorem dX2_sum_23 : decode cX2_sum 23 = .ok (.invokestatic 35, 3) := by decide +kernel
theorem dX2_sum_26 : decode cX2_sum 26 = .ok (.ifCond .ne 14, 3) := by decide +kernel
theorem dX2_sum_29 : decode cX2_sum 29 = .ok (.aload_n 0, 1) := by decide +kernel
theorem dX2_sum_30 : decode cX2_sum 30 = .ok (.getfield 25, 3) := by decide +kernel
theorem dX2_sum_33 : decode cX2_sum 33 = .ok (.iconst 4, 1) := by decide +kernel
theorem dX2_sum_34 : decode cX2_sum 34 = .ok (.iload 4, 2) := by decide +kernel
theorem dX2_sum_36 : decode cX2_sum 36 = .ok (.invokevirtual 39, 3) := by decide +kernel
theorem dX2_sum_39 : decode cX2_sum 39 = .ok (.ireturn, 1) := by decide +kernel
theorem dX2_sum_40 : decode cX2_sum 40 = .ok (.aload_n 0, 1) := by decide +kernel
theorem dX2_sum_41 : decode cX2_sum 41 = .ok (.getfield 9, 3) := by decide +kernel
theorem dX2_sum_44 : decode cX2_sum 44 = .ok (.iload 4, 2) := by decide +kernel
theorem dX2_sum_46 : decode cX2_sum 46 = .ok (.aload_n 1, 1) := by decide +kernel
theorem dX2_sum_47 : decode cX2_sum 47 = .ok (.iload 4, 2) := by decide +kernel
theorem dX2_sum_49 : decode cX2_sum 49 = .ok (.laload, 1) := by decide +kernel
theorem dX2_sum_50 : decode cX2_sum 50 = .ok (.aload_n 2, 1) := by decide +kernel
theorem dX2_sum_51 : decode cX2_sum 51 = .ok (.iload 4, 2) := by decide +kernel
theorem dX2_sum_53 : decode cX2_sum 53 = .ok (.laload, 1) := by decide +kernel
theorem dX2_sum_54 : decode cX2_sum 54 = .ok (.ladd, 1) := by decide +kernel
theorem dX2_sum_55 : decode cX2_sum 55 = .ok (.lastore, 1) := by decide +kernel
theorem dX2_sum_56 : decode cX2_sum 56 = .ok (.iinc 4 1, 3) := by decide +kernel
theorem dX2_sum_59 : decode cX2_sum 59 = .ok (.goto (-56), 3) := by decide +kernel
theorem dX2_sum_62 : decode cX2_sum 62 = .ok (.aload_n 0, 1) := by decide +kernel
theorem dX2_sum_63 : decode cX2_sum 63 = .ok (.getfield 9, 3) := by decide +kernel
theorem dX2_sum_66 : decode cX2_sum 66 = .ok (.aload_n 3, 1) := by decide +kernel
theorem dX2_sum_67 : decode cX2_sum 67 = .ok (.invokestatic 45, 3) := by decide +kernel
theorem dX2_sum_70 : decode cX2_sum 70 = .ok (.iconst 1, 1) := by decide +kernel
theorem dX2_sum_71 : decode cX2_sum 71 = .ok (.ireturn, 1) := by decide +kernel
section
variable {p : Program} {l : Launch} {e : Env} {s : State} {m : MethodId} {args : Array Value} {below : List Frame} {meth : Method} {c : Code} {Q : State → Prop} {G : GG} {A : Nat → Prop} {q : Nat → Nat} {fr : va_W}
def f_X2_sum_L3 (ze : Int32) (aOs : Nat → Int32) (aOn : Nat → Int32) (r1 : Nat) (r2 : Nat) (r3 : Nat) : Nat → Int32 → (Nat → Int32) → (Nat → Int32) → Int32 → (Nat → Nat → Int64) → Int32 → Option (Int32 × Int32 × (Nat → Int32) × (Nat → Int32) × Int32 × (Nat → Nat → Int64))
  | 0, _, _, _, _, _, _ => none
  | fu + 1, ztc, aTs, aTn, zoc, M, v4 =>
    if ze ≤ v4 then
    (f_X4_copyRow M 29 r3).bind fun z2 =>
    some (1, ztc, aTs, aTn, zoc, z2)
    else
    if inb v4 (rl r1) then
    if inb v4 (rl r2) then
    (f_X2_sumFits (M r1 v4.toNatClampNeg) (M r2 v4.toNatClampNeg)).bind fun z5 =>
    if z5 = 0 then
    (f_X3_report ztc aTs aTn zoc aOs aOn 4 v4).bind fun z10 =>
    if z10.1 = 0 ∨ z10.1 = 1 then
    some (z10.1, z10.2.1, z10.2.2.1, z10.2.2.2.1, z10.2.2.2.2, M)
    else none
    else
    if inb v4 (rl r1) then
    if inb v4 (rl r2) then
    if inb v4 (rl 29) then
    f_X2_sum_L3 ze aOs aOn r1 r2 r3 fu ztc aTs aTn zoc (va_up M 29 (vp_updL (M 29) v4.toNatClampNeg ((M r1 v4.toNatClampNeg) + (M r2 v4.toNatClampNeg)))) (v4 + 1)
    else none
    else none
    else none
    else none
    else none
set_option maxHeartbeats 4000000 in
set_option maxRecDepth 100000 in
theorem w_X2_sum_L3  {zp : Int32} {ze : Int32} {zf : Int32} {zg : Int32} {zn : Int32} {aG : Nat → Int32} {aW : Nat → Int32} {aR : Nat → Int32} {aN : Nat → Int32} {aF : Nat → Int32} {lC : Nat → Int64} {lS : Nat → Int64} {lP : Nat → Int64} {lX : Nat → Int64} {aOs : Nat → Int32} {aOn : Nat → Int32} {aTp : Nat → Int32} {zln : Int32} {zpl : Int32} {zfa : Int32} {aSz : Nat → Int32} {zit : Int32} {zip : Int32} {zic : Int32} {zig : Int32} {r1 : Nat} {r2 : Nat} {r3 : Nat}  (F : Fx p s m args meth c cX2_sum 5 RX2 (some .boolean)) (hA : ∀ q, s.heap.size ≤ q → A q) (hr1 : r1 < 32) (hr2 : r2 < 32) (hr3 : r3 < 32)  : ∀ (fu : Nat) (ztc : Int32) (aTs : Nat → Int32) (aTn : Nat → Int32) (zoc : Int32) (M : Nat → Nat → Int64) (v4 : Int32) (z : Int32 × Int32 × (Nat → Int32) × (Nat → Int32) × Int32 × (Nat → Nat → Int64)), f_X2_sum_L3 ze aOs aOn r1 r2 r3 fu ztc aTs aTn zoc M v4 = some z → Ends p l e (rmOf 1 25) s m args below meth c Q cX2_sum G A (some .boolean) (some (.int z.1)) (kW G q zp ze zf zg zn aG aW aR aN aF lC lS lP lX ++ (oW G q z.2.1 z.2.2.1 z.2.2.2.1 z.2.2.2.2.1 aOs aOn aTp zln zpl zfa aSz zit zip zic zig z.2.2.2.2.2 ++ fr)) → ∀ (H : Heap) (locs : List Loc) (ls : Array Slot), Wd G s A (kW G q zp ze zf zg zn aG aW aR aN aF lC lS lP lX ++ (oW G q ztc aTs aTn zoc aOs aOn aTp zln zpl zfa aSz zit zip zic zig M ++ fr)) H locs → lv_has ls 5 [(0, .ref (q 15)), (1, .ref (q (26 + r1))), (2, .ref (q (26 + r2))), (3, .ref (q (26 + r3))), (4, .int v4)] → W p l e (rmOf 1 25) s m args below meth c H locs 0 0 Q (F0 m 3 ls []) := by
  have hx := F.x
  have hb := F.b
  intro fu
  induction fu with
  | zero =>
    intro ztc aTs aTn zoc M v4 z h
    cases (h : none = some z)
  | succ fu ih =>
    intro ztc aTs aTn zoc M v4 z h hE H locs ls hw hl
    rw [f_X2_sum_L3] at h
    refine lv_iload hx hb dX2_sum_3 (lv_at hl 4 rfl) ?_
    refine lv_aload_n hx hb dX2_sum_5 rfl (lv_at hl 0 rfl) ?_
    refine gf_2_21 F hw dX2_sum_6 ?_
    refine gf_2_29 F hw dX2_sum_9 ?_
    refine lv_icmp_ge (tgt := 62) hx hb dX2_sum_12 (by decide) (fun c1 => ?_) (fun c1 => ?_)
    · replace h := stT c1 h
      refine lv_aload_n hx hb dX2_sum_62 rfl (lv_at hl 0 rfl) ?_
      refine gf_2_9 F hw dX2_sum_63 ?_
      refine lv_aload_n hx hb dX2_sum_66 rfl (lv_at hl 3 rfl) ?_
      obtain ⟨z2, hz2, h⟩ := stB h
      refine ctSN (av := [.ref (q (26 + 29)), .ref (q (26 + r3))]) (st0 := ([] : List Value)) (st1 := ([] : List Value)) (host := RX4) F hw hA (k_X4_copyRow (by decide) hr3 hz2) (by decide +kernel) kn_X4_copyRow ki_4 ks_X4_copyRow kd_X4_copyRow rfl ⟨by decide, by decide⟩ hl.1 rfl (Nat.le_of_ble_eq_true rfl) dX2_sum_67 rfl (fun H locs hw => ?_)
      refine lv_iconst (v := 1) hx hb dX2_sum_70 (by decide) ?_
      obtain rfl := Option.some.inj h
      exact hE H locs _ ls hw (Or.inr rfl) dX2_sum_71
    · replace h := stF c1 h
      refine lv_aload_n hx hb dX2_sum_15 rfl (lv_at hl 1 rfl) ?_
      refine lv_iload hx hb dX2_sum_16 (lv_at hl 4 rfl) ?_
      obtain ⟨g3, h⟩ := stG h
      refine al_row F hw hr1 g3 dX2_sum_18 ?_
      refine lv_aload_n hx hb dX2_sum_19 rfl (lv_at hl 2 rfl) ?_
      refine lv_iload hx hb dX2_sum_20 (lv_at hl 4 rfl) ?_
      obtain ⟨g4, h⟩ := stG h
      refine al_row F hw hr2 g4 dX2_sum_22 ?_
      obtain ⟨z5, hz5, h⟩ := stB h
      refine ctS (av := [.long (M r1 v4.toNatClampNeg), .long (M r2 v4.toNatClampNeg)]) (st0 := ([] : List Value)) (st1 := ([.int z5] : List Value)) F hw hA (k_X2_sumFits hz5) kl_2_35 kd_X2_sumFits rfl ⟨by decide, by decide⟩ hl.1 rfl (Nat.le_of_ble_eq_true rfl) dX2_sum_23 rfl (fun H locs hw => ?_)
      refine lv_if_ne (tgt := 40) hx hb dX2_sum_26 (by decide) (fun c6 => ?_) (fun c6 => ?_)
      · replace h := stF c6 h
        refine lv_aload_n hx hb dX2_sum_40 rfl (lv_at hl 0 rfl) ?_
        refine gf_2_9 F hw dX2_sum_41 ?_
        refine lv_iload hx hb dX2_sum_44 (lv_at hl 4 rfl) ?_
        refine lv_aload_n hx hb dX2_sum_46 rfl (lv_at hl 1 rfl) ?_
        refine lv_iload hx hb dX2_sum_47 (lv_at hl 4 rfl) ?_
        obtain ⟨g7, h⟩ := stG h
        refine al_row F hw hr1 g7 dX2_sum_49 ?_
        refine lv_aload_n hx hb dX2_sum_50 rfl (lv_at hl 2 rfl) ?_
        refine lv_iload hx hb dX2_sum_51 (lv_at hl 4 rfl) ?_
        obtain ⟨g8, h⟩ := stG h
        refine al_row F hw hr2 g8 dX2_sum_53 ?_
        refine lv_ladd hx hb dX2_sum_54 ?_
        obtain ⟨g9, h⟩ := stG h
        refine as_row F hw (by decide) g9 dX2_sum_55 (fun H locs hw => ?_)
        refine lv_iinc (v := (v4 + 1)) (lv' := [(4, .int (v4 + 1)), (0, .ref (q 15)), (1, .ref (q (26 + r1))), (2, .ref (q (26 + r2))), (3, .ref (q (26 + r3)))]) hx hb dX2_sum_56 hl (k := 4) rfl rfl (by decide) rfl (fun ls hl => ?_)
        refine lv_goto (tgt := 3) hx hb dX2_sum_59 (by decide) ?_
        exact ih _ _ _ _ _ _ z h hE H locs ls hw (lv_sub hl [1, 2, 3, 4, 0] rfl)
      · replace h := stT c6 h
        refine lv_aload_n hx hb dX2_sum_29 rfl (lv_at hl 0 rfl) ?_
        refine gf_2_25 F hw dX2_sum_30 ?_
        refine lv_iconst (v := 4) hx hb dX2_sum_33 (by decide) ?_
        refine lv_iload hx hb dX2_sum_34 (lv_at hl 4 rfl) ?_
        obtain ⟨z10, hz10, h⟩ := stB h
        refine ctV (av := [.int 4, .int v4]) (st0 := ([] : List Value)) (st1 := ([.int z10.1] : List Value)) F hw hA (k_X3_report hz10) kl_2_39 kd_X3_report rfl ⟨by decide, by decide⟩ 10 rfl rfl hl.1 rfl (Nat.le_of_ble_eq_true rfl) dX2_sum_36 rfl (fun H locs hw => ?_)
        obtain ⟨g11, h⟩ := stG h
        obtain rfl := Option.some.inj h
        exact hE H locs _ ls hw g11 dX2_sum_39
def f_X2_sum (ze : Int32) (ztc : Int32) (aTs : Nat → Int32) (aTn : Nat → Int32) (zoc : Int32) (aOs : Nat → Int32) (aOn : Nat → Int32) (M : Nat → Nat → Int64) (r1 : Nat) (r2 : Nat) (r3 : Nat) : Option (Int32 × Int32 × (Nat → Int32) × (Nat → Int32) × Int32 × (Nat → Nat → Int64)) :=
  f_X2_sum_L3 ze aOs aOn r1 r2 r3 FU ztc aTs aTn zoc M 0
set_option maxHeartbeats 4000000 in
set_option maxRecDepth 100000 in
theorem k_X2_sum {l : Launch} {G : GG} {q : Nat → Nat} {fr : va_W}  {zp : Int32} {ze : Int32} {zf : Int32} {zg : Int32} {zn : Int32} {aG : Nat → Int32} {aW : Nat → Int32} {aR : Nat → Int32} {aN : Nat → Int32} {aF : Nat → Int32} {lC : Nat → Int64} {lS : Nat → Int64} {lP : Nat → Int64} {lX : Nat → Int64} {ztc : Int32} {aTs : Nat → Int32} {aTn : Nat → Int32} {zoc : Int32} {aOs : Nat → Int32} {aOn : Nat → Int32} {aTp : Nat → Int32} {zln : Int32} {zpl : Int32} {zfa : Int32} {aSz : Nat → Int32} {zit : Int32} {zip : Int32} {zic : Int32} {zig : Int32} {M : Nat → Nat → Int64} {r1 : Nat} {r2 : Nat} {r3 : Nat} {z : Int32 × Int32 × (Nat → Int32) × (Nat → Int32) × Int32 × (Nat → Nat → Int64)} (hr1 : r1 < 32) (hr2 : r2 < 32) (hr3 : r3 < 32) (h : f_X2_sum ze ztc aTs aTn zoc aOs aOn M r1 r2 r3 = some z) : Ct l G yX2_sum cX2_sum 5 (some .boolean) 1 25 [.ref (q 15), .ref (q (26 + r1)), .ref (q (26 + r2)), .ref (q (26 + r3))] (kW G q zp ze zf zg zn aG aW aR aN aF lC lS lP lX ++ (oW G q ztc aTs aTn zoc aOs aOn aTp zln zpl zfa aSz zit zip zic zig M ++ fr)) (some (.int z.1)) (kW G q zp ze zf zg zn aG aW aR aN aF lC lS lP lX ++ (oW G q z.2.1 z.2.2.1 z.2.2.2.1 z.2.2.2.2.1 aOs aOn aTp zln zpl zfa aSz zit zip zic zig z.2.2.2.2.2 ++ fr)) := by
  refine Ct.of (by decide +kernel) (Nat.le_of_ble_eq_true rfl) trivial ?_
  intro p e s m args below meth c Q A ls F hw hA hE hl
  have hx := F.x
  have hb := F.b
  unfold f_X2_sum at h
  obtain ⟨H, hH⟩ : ∃ H, H = s.heap := ⟨_, rfl⟩
  obtain ⟨locs, hlo⟩ : ∃ locs : List Loc, locs = [] := ⟨_, rfl⟩
  rw [← hH, ← hlo] at hw ⊢
  have hl : lv_has ls 5 [(0, .ref (q 15)), (1, .ref (q (26 + r1))), (2, .ref (q (26 + r2))), (3, .ref (q (26 + r3)))] := hl
  refine lv_iconst (v := 0) hx hb dX2_sum_0 (by decide) ?_
  refine lv_istore (lv' := [(4, .int 0), (0, .ref (q 15)), (1, .ref (q (26 + r1))), (2, .ref (q (26 + r2))), (3, .ref (q (26 + r3)))]) hx hb dX2_sum_1 hl (by decide) rfl (fun ls hl => ?_)
  exact w_X2_sum_L3 F hA hr1 hr2 hr3 FU _ _ _ _ _ _ z h hE H locs ls hw (lv_sub hl [1, 2, 3, 4, 0] rfl)
end
theorem dX2_difference_0 : decode cX2_difference 0 = .ok (.iconst 0, 1) := by decide +kernel
theorem dX2_difference_1 : decode cX2_difference 1 = .ok (.istore 4, 2) := by decide +kernel
theorem dX2_difference_3 : decode cX2_difference 3 = .ok (.iload 4, 2) := by decide +kernel
theorem dX2_difference_5 : decode cX2_difference 5 = .ok (.aload_n 0, 1) := by decide +kernel
theorem dX2_difference_6 : decode cX2_difference 6 = .ok (.getfield 21, 3) := by decide +kernel
theorem dX2_difference_9 : decode cX2_difference 9 = .ok (.getfield 29, 3) := by decide +kernel
theorem dX2_difference_12 : decode cX2_difference 12 = .ok (.if_icmp .ge 50, 3) := by decide +kernel
theorem dX2_difference_15 : decode cX2_difference 15 = .ok (.aload_n 1, 1) := by decide +kernel
theorem dX2_difference_16 : decode cX2_difference 16 = .ok (.iload 4, 2) := by decide +kernel
theorem dX2_difference_18 : decode cX2_difference 18 = .ok (.laload, 1) := by decide +kernel
theorem dX2_difference_19 : decode cX2_difference 19 = .ok (.aload_n 2, 1) := by decide +kernel
theorem dX2_difference_20 : decode cX2_difference 20 = .ok (.iload 4, 2) := by decide +kernel
theorem dX2_difference_22 : decode cX2_difference 22 = .ok (.laload, 1) := by decide +kernel
theorem dX2_difference_23 : decode cX2_difference 23 = .ok (.invokestatic 49, 3) := by decide +kernel
theorem dX2_difference_26 : decode cX2_difference 26 = .ok (.ifCond .ne 14, 3) := by decide +kernel
theorem dX2_difference_29 : decode cX2_difference 29 = .ok (.aload_n 0, 1) := by decide +kernel
theorem dX2_difference_30 : decode cX2_difference 30 = .ok (.getfield 25, 3) := by decide +kernel
theorem dX2_difference_33 : decode cX2_difference 33 = .ok (.iconst 4, 1) := by decide +kernel
theorem dX2_difference_34 : decode cX2_difference 34 = .ok (.iload 4, 2) := by decide +kernel
theorem dX2_difference_36 : decode cX2_difference 36 = .ok (.invokevirtual 39, 3) := by decide +kernel
theorem dX2_difference_39 : decode cX2_difference 39 = .ok (.ireturn, 1) := by decide +kernel
theorem dX2_difference_40 : decode cX2_difference 40 = .ok (.aload_n 0, 1) := by decide +kernel
theorem dX2_difference_41 : decode cX2_difference 41 = .ok (.getfield 9, 3) := by decide +kernel
theorem dX2_difference_44 : decode cX2_difference 44 = .ok (.iload 4, 2) := by decide +kernel
theorem dX2_difference_46 : decode cX2_difference 46 = .ok (.aload_n 1, 1) := by decide +kernel
theorem dX2_difference_47 : decode cX2_difference 47 = .ok (.iload 4, 2) := by decide +kernel
theorem dX2_difference_49 : decode cX2_difference 49 = .ok (.laload, 1) := by decide +kernel
theorem dX2_difference_50 : decode cX2_difference 50 = .ok (.aload_n 2, 1) := by decide +kernel
theorem dX2_difference_51 : decode cX2_difference 51 = .ok (.iload 4, 2) := by decide +kernel
theorem dX2_difference_53 : decode cX2_difference 53 = .ok (.laload, 1) := by decide +kernel
theorem dX2_difference_54 : decode cX2_difference 54 = .ok (.lsub, 1) := by decide +kernel
theorem dX2_difference_55 : decode cX2_difference 55 = .ok (.lastore, 1) := by decide +kernel
theorem dX2_difference_56 : decode cX2_difference 56 = .ok (.iinc 4 1, 3) := by decide +kernel
theorem dX2_difference_59 : decode cX2_difference 59 = .ok (.goto (-56), 3) := by decide +kernel
theorem dX2_difference_62 : decode cX2_difference 62 = .ok (.aload_n 0, 1) := by decide +kernel
theorem dX2_difference_63 : decode cX2_difference 63 = .ok (.getfield 9, 3) := by decide +kernel
theorem dX2_difference_66 : decode cX2_difference 66 = .ok (.aload_n 3, 1) := by decide +kernel
theorem dX2_difference_67 : decode cX2_difference 67 = .ok (.invokestatic 45, 3) := by decide +kernel
theorem dX2_difference_70 : decode cX2_difference 70 = .ok (.iconst 1, 1) := by decide +kernel
theorem dX2_difference_71 : decode cX2_difference 71 = .ok (.ireturn, 1) := by decide +kernel
section
variable {p : Program} {l : Launch} {e : Env} {s : State} {m : MethodId} {args : Array Value} {below : List Frame} {meth : Method} {c : Code} {Q : State → Prop} {G : GG} {A : Nat → Prop} {q : Nat → Nat} {fr : va_W}
def f_X2_difference_L3 (ze : Int32) (aOs : Nat → Int32) (aOn : Nat → Int32) (r1 : Nat) (r2 : Nat) (r3 : Nat) : Nat → Int32 → (Nat → Int32) → (Nat → Int32) → Int32 → (Nat → Nat → Int64) → Int32 → Option (Int32 × Int32 × (Nat → Int32) × (Nat → Int32) × Int32 × (Nat → Nat → Int64))
  | 0, _, _, _, _, _, _ => none
  | fu + 1, ztc, aTs, aTn, zoc, M, v4 =>
    if ze ≤ v4 then
    (f_X4_copyRow M 29 r3).bind fun z2 =>
    some (1, ztc, aTs, aTn, zoc, z2)
    else
    if inb v4 (rl r1) then
    if inb v4 (rl r2) then
    (f_X2_differenceFits (M r1 v4.toNatClampNeg) (M r2 v4.toNatClampNeg)).bind fun z5 =>
    if z5 = 0 then
    (f_X3_report ztc aTs aTn zoc aOs aOn 4 v4).bind fun z10 =>
    if z10.1 = 0 ∨ z10.1 = 1 then
    some (z10.1, z10.2.1, z10.2.2.1, z10.2.2.2.1, z10.2.2.2.2, M)
    else none
    else
    if inb v4 (rl r1) then
    if inb v4 (rl r2) then
    if inb v4 (rl 29) then
    f_X2_difference_L3 ze aOs aOn r1 r2 r3 fu ztc aTs aTn zoc (va_up M 29 (vp_updL (M 29) v4.toNatClampNeg ((M r1 v4.toNatClampNeg) - (M r2 v4.toNatClampNeg)))) (v4 + 1)
    else none
    else none
    else none
    else none
    else none
set_option maxHeartbeats 4000000 in
set_option maxRecDepth 100000 in
theorem w_X2_difference_L3  {zp : Int32} {ze : Int32} {zf : Int32} {zg : Int32} {zn : Int32} {aG : Nat → Int32} {aW : Nat → Int32} {aR : Nat → Int32} {aN : Nat → Int32} {aF : Nat → Int32} {lC : Nat → Int64} {lS : Nat → Int64} {lP : Nat → Int64} {lX : Nat → Int64} {aOs : Nat → Int32} {aOn : Nat → Int32} {aTp : Nat → Int32} {zln : Int32} {zpl : Int32} {zfa : Int32} {aSz : Nat → Int32} {zit : Int32} {zip : Int32} {zic : Int32} {zig : Int32} {r1 : Nat} {r2 : Nat} {r3 : Nat}  (F : Fx p s m args meth c cX2_difference 5 RX2 (some .boolean)) (hA : ∀ q, s.heap.size ≤ q → A q) (hr1 : r1 < 32) (hr2 : r2 < 32) (hr3 : r3 < 32)  : ∀ (fu : Nat) (ztc : Int32) (aTs : Nat → Int32) (aTn : Nat → Int32) (zoc : Int32) (M : Nat → Nat → Int64) (v4 : Int32) (z : Int32 × Int32 × (Nat → Int32) × (Nat → Int32) × Int32 × (Nat → Nat → Int64)), f_X2_difference_L3 ze aOs aOn r1 r2 r3 fu ztc aTs aTn zoc M v4 = some z → Ends p l e (rmOf 1 25) s m args below meth c Q cX2_difference G A (some .boolean) (some (.int z.1)) (kW G q zp ze zf zg zn aG aW aR aN aF lC lS lP lX ++ (oW G q z.2.1 z.2.2.1 z.2.2.2.1 z.2.2.2.2.1 aOs aOn aTp zln zpl zfa aSz zit zip zic zig z.2.2.2.2.2 ++ fr)) → ∀ (H : Heap) (locs : List Loc) (ls : Array Slot), Wd G s A (kW G q zp ze zf zg zn aG aW aR aN aF lC lS lP lX ++ (oW G q ztc aTs aTn zoc aOs aOn aTp zln zpl zfa aSz zit zip zic zig M ++ fr)) H locs → lv_has ls 5 [(0, .ref (q 15)), (1, .ref (q (26 + r1))), (2, .ref (q (26 + r2))), (3, .ref (q (26 + r3))), (4, .int v4)] → W p l e (rmOf 1 25) s m args below meth c H locs 0 0 Q (F0 m 3 ls []) := by
  have hx := F.x
  have hb := F.b
  intro fu
  induction fu with
  | zero =>
    intro ztc aTs aTn zoc M v4 z h
    cases (h : none = some z)
  | succ fu ih =>
    intro ztc aTs aTn zoc M v4 z h hE H locs ls hw hl
    rw [f_X2_difference_L3] at h
    refine lv_iload hx hb dX2_difference_3 (lv_at hl 4 rfl) ?_
    refine lv_aload_n hx hb dX2_difference_5 rfl (lv_at hl 0 rfl) ?_
    refine gf_2_21 F hw dX2_difference_6 ?_
    refine gf_2_29 F hw dX2_difference_9 ?_
    refine lv_icmp_ge (tgt := 62) hx hb dX2_difference_12 (by decide) (fun c1 => ?_) (fun c1 => ?_)
    · replace h := stT c1 h
      refine lv_aload_n hx hb dX2_difference_62 rfl (lv_at hl 0 rfl) ?_
      refine gf_2_9 F hw dX2_difference_63 ?_
      refine lv_aload_n hx hb dX2_difference_66 rfl (lv_at hl 3 rfl) ?_
      obtain ⟨z2, hz2, h⟩ := stB h
      refine ctSN (av := [.ref (q (26 + 29)), .ref (q (26 + r3))]) (st0 := ([] : List Value)) (st1 := ([] : List Value)) (host := RX4) F hw hA (k_X4_copyRow (by decide) hr3 hz2) (by decide +kernel) kn_X4_copyRow ki_4 ks_X4_copyRow kd_X4_copyRow rfl ⟨by decide, by decide⟩ hl.1 rfl (Nat.le_of_ble_eq_true rfl) dX2_difference_67 rfl (fun H locs hw => ?_)
      refine lv_iconst (v := 1) hx hb dX2_difference_70 (by decide) ?_
      obtain rfl := Option.some.inj h
      exact hE H locs _ ls hw (Or.inr rfl) dX2_difference_71
    · replace h := stF c1 h
      refine lv_aload_n hx hb dX2_difference_15 rfl (lv_at hl 1 rfl) ?_
      refine lv_iload hx hb dX2_difference_16 (lv_at hl 4 rfl) ?_
      obtain ⟨g3, h⟩ := stG h
      refine al_row F hw hr1 g3 dX2_difference_18 ?_
      refine lv_aload_n hx hb dX2_difference_19 rfl (lv_at hl 2 rfl) ?_
      refine lv_iload hx hb dX2_difference_20 (lv_at hl 4 rfl) ?_
      obtain ⟨g4, h⟩ := stG h
      refine al_row F hw hr2 g4 dX2_difference_22 ?_
      obtain ⟨z5, hz5, h⟩ := stB h
      refine ctS (av := [.long (M r1 v4.toNatClampNeg), .long (M r2 v4.toNatClampNeg)]) (st0 := ([] : List Value)) (st1 := ([.int z5] : List Value)) F hw hA (k_X2_differenceFits hz5) kl_2_49 kd_X2_differenceFits rfl ⟨by decide, by decide⟩ hl.1 rfl (Nat.le_of_ble_eq_true rfl) dX2_difference_23 rfl (fun H locs hw => ?_)
      refine lv_if_ne (tgt := 40) hx hb dX2_difference_26 (by decide) (fun c6 => ?_) (fun c6 => ?_)
      · replace h := stF c6 h
        refine lv_aload_n hx hb dX2_difference_40 rfl (lv_at hl 0 rfl) ?_
        refine gf_2_9 F hw dX2_difference_41 ?_
        refine lv_iload hx hb dX2_difference_44 (lv_at hl 4 rfl) ?_
        refine lv_aload_n hx hb dX2_difference_46 rfl (lv_at hl 1 rfl) ?_
        refine lv_iload hx hb dX2_difference_47 (lv_at hl 4 rfl) ?_
        obtain ⟨g7, h⟩ := stG h
        refine al_row F hw hr1 g7 dX2_difference_49 ?_
        refine lv_aload_n hx hb dX2_difference_50 rfl (lv_at hl 2 rfl) ?_
        refine lv_iload hx hb dX2_difference_51 (lv_at hl 4 rfl) ?_
        obtain ⟨g8, h⟩ := stG h
        refine al_row F hw hr2 g8 dX2_difference_53 ?_
        refine lv_lsub hx hb dX2_difference_54 ?_
        obtain ⟨g9, h⟩ := stG h
        refine as_row F hw (by decide) g9 dX2_difference_55 (fun H locs hw => ?_)
        refine lv_iinc (v := (v4 + 1)) (lv' := [(4, .int (v4 + 1)), (0, .ref (q 15)), (1, .ref (q (26 + r1))), (2, .ref (q (26 + r2))), (3, .ref (q (26 + r3)))]) hx hb dX2_difference_56 hl (k := 4) rfl rfl (by decide) rfl (fun ls hl => ?_)
        refine lv_goto (tgt := 3) hx hb dX2_difference_59 (by decide) ?_
        exact ih _ _ _ _ _ _ z h hE H locs ls hw (lv_sub hl [1, 2, 3, 4, 0] rfl)
      · replace h := stT c6 h
        refine lv_aload_n hx hb dX2_difference_29 rfl (lv_at hl 0 rfl) ?_
        refine gf_2_25 F hw dX2_difference_30 ?_
        refine lv_iconst (v := 4) hx hb dX2_difference_33 (by decide) ?_
        refine lv_iload hx hb dX2_difference_34 (lv_at hl 4 rfl) ?_
        obtain ⟨z10, hz10, h⟩ := stB h
        refine ctV (av := [.int 4, .int v4]) (st0 := ([] : List Value)) (st1 := ([.int z10.1] : List Value)) F hw hA (k_X3_report hz10) kl_2_39 kd_X3_report rfl ⟨by decide, by decide⟩ 10 rfl rfl hl.1 rfl (Nat.le_of_ble_eq_true rfl) dX2_difference_36 rfl (fun H locs hw => ?_)
        obtain ⟨g11, h⟩ := stG h
        obtain rfl := Option.some.inj h
        exact hE H locs _ ls hw g11 dX2_difference_39
def f_X2_difference (ze : Int32) (ztc : Int32) (aTs : Nat → Int32) (aTn : Nat → Int32) (zoc : Int32) (aOs : Nat → Int32) (aOn : Nat → Int32) (M : Nat → Nat → Int64) (r1 : Nat) (r2 : Nat) (r3 : Nat) : Option (Int32 × Int32 × (Nat → Int32) × (Nat → Int32) × Int32 × (Nat → Nat → Int64)) :=
  f_X2_difference_L3 ze aOs aOn r1 r2 r3 FU ztc aTs aTn zoc M 0
set_option maxHeartbeats 4000000 in
set_option maxRecDepth 100000 in
theorem k_X2_difference {l : Launch} {G : GG} {q : Nat → Nat} {fr : va_W}  {zp : Int32} {ze : Int32} {zf : Int32} {zg : Int32} {zn : Int32} {aG : Nat → Int32} {aW : Nat → Int32} {aR : Nat → Int32} {aN : Nat → Int32} {aF : Nat → Int32} {lC : Nat → Int64} {lS : Nat → Int64} {lP : Nat → Int64} {lX : Nat → Int64} {ztc : Int32} {aTs : Nat → Int32} {aTn : Nat → Int32} {zoc : Int32} {aOs : Nat → Int32} {aOn : Nat → Int32} {aTp : Nat → Int32} {zln : Int32} {zpl : Int32} {zfa : Int32} {aSz : Nat → Int32} {zit : Int32} {zip : Int32} {zic : Int32} {zig : Int32} {M : Nat → Nat → Int64} {r1 : Nat} {r2 : Nat} {r3 : Nat} {z : Int32 × Int32 × (Nat → Int32) × (Nat → Int32) × Int32 × (Nat → Nat → Int64)} (hr1 : r1 < 32) (hr2 : r2 < 32) (hr3 : r3 < 32) (h : f_X2_difference ze ztc aTs aTn zoc aOs aOn M r1 r2 r3 = some z) : Ct l G yX2_difference cX2_difference 5 (some .boolean) 1 25 [.ref (q 15), .ref (q (26 + r1)), .ref (q (26 + r2)), .ref (q (26 + r3))] (kW G q zp ze zf zg zn aG aW aR aN aF lC lS lP lX ++ (oW G q ztc aTs aTn zoc aOs aOn aTp zln zpl zfa aSz zit zip zic zig M ++ fr)) (some (.int z.1)) (kW G q zp ze zf zg zn aG aW aR aN aF lC lS lP lX ++ (oW G q z.2.1 z.2.2.1 z.2.2.2.1 z.2.2.2.2.1 aOs aOn aTp zln zpl zfa aSz zit zip zic zig z.2.2.2.2.2 ++ fr)) := by
  refine Ct.of (by decide +kernel) (Nat.le_of_ble_eq_true rfl) trivial ?_
  intro p e s m args below meth c Q A ls F hw hA hE hl
  have hx := F.x
  have hb := F.b
  unfold f_X2_difference at h
  obtain ⟨H, hH⟩ : ∃ H, H = s.heap := ⟨_, rfl⟩
  obtain ⟨locs, hlo⟩ : ∃ locs : List Loc, locs = [] := ⟨_, rfl⟩
  rw [← hH, ← hlo] at hw ⊢
  have hl : lv_has ls 5 [(0, .ref (q 15)), (1, .ref (q (26 + r1))), (2, .ref (q (26 + r2))), (3, .ref (q (26 + r3)))] := hl
  refine lv_iconst (v := 0) hx hb dX2_difference_0 (by decide) ?_
  refine lv_istore (lv' := [(4, .int 0), (0, .ref (q 15)), (1, .ref (q (26 + r1))), (2, .ref (q (26 + r2))), (3, .ref (q (26 + r3)))]) hx hb dX2_difference_1 hl (by decide) rfl (fun ls hl => ?_)
  exact w_X2_difference_L3 F hA hr1 hr2 hr3 FU _ _ _ _ _ _ z h hE H locs ls hw (lv_sub hl [1, 2, 3, 4, 0] rfl)
end
theorem dX2_multiplyAt_0 : decode cX2_multiplyAt 0 = .ok (.lconst 0, 1) := by decide +kernel
theorem dX2_multiplyAt_1 : decode cX2_multiplyAt 1 = .ok (.lstore 4, 2) := by decide +kernel
theorem dX2_multiplyAt_3 : decode cX2_multiplyAt 3 = .ok (.iconst 0, 1) := by decide +kernel
theorem dX2_multiplyAt_4 : decode cX2_multiplyAt 4 = .ok (.istore 6, 2) := by decide +kernel
theorem dX2_multiplyAt_6 : decode cX2_multiplyAt 6 = .ok (.iload 6, 2) := by decide +kernel
theorem dX2_multiplyAt_8 : decode cX2_multiplyAt 8 = .ok (.aload_n 0, 1) := by decide +kernel
theorem dX2_multiplyAt_9 : decode cX2_multiplyAt 9 = .ok (.getfield 21, 3) := by decide +kernel
theorem dX2_multiplyAt_12 : decode cX2_multiplyAt 12 = .ok (.getfield 29, 3) := by decide +kernel
theorem dX2_multiplyAt_15 : decode cX2_multiplyAt 15 = .ok (.if_icmp .ge 157, 3) := by decide +kernel
theorem dX2_multiplyAt_18 : decode cX2_multiplyAt 18 = .ok (.iconst 0, 1) := by decide +kernel
theorem dX2_multiplyAt_19 : decode cX2_multiplyAt 19 = .ok (.istore 7, 2) := by decide +kernel
theorem dX2_multiplyAt_21 : decode cX2_multiplyAt 21 = .ok (.iload 7, 2) := by decide +kernel
theorem dX2_multiplyAt_23 : decode cX2_multiplyAt 23 = .ok (.aload_n 0, 1) := by decide +kernel
theorem dX2_multiplyAt_24 : decode cX2_multiplyAt 24 = .ok (.getfield 21, 3) := by decide +kernel
theorem dX2_multiplyAt_27 : decode cX2_multiplyAt 27 = .ok (.getfield 29, 3) := by decide +kernel
theorem dX2_multiplyAt_30 : decode cX2_multiplyAt 30 = .ok (.if_icmp .ge 136, 3) := by decide +kernel
theorem dX2_multiplyAt_33 : decode cX2_multiplyAt 33 = .ok (.sipush 10000, 3) := by decide +kernel
theorem dX2_multiplyAt_36 : decode cX2_multiplyAt 36 = .ok (.iload_n 1, 1) := by decide +kernel
theorem dX2_multiplyAt_37 : decode cX2_multiplyAt 37 = .ok (.imul, 1) := by decide +kernel
theorem dX2_multiplyAt_38 : decode cX2_multiplyAt 38 = .ok (.bipush 100, 2) := by decide +kernel
theorem dX2_multiplyAt_40 : decode cX2_multiplyAt 40 = .ok (.iload 6, 2) := by decide +kernel
theorem dX2_multiplyAt_42 : decode cX2_multiplyAt 42 = .ok (.imul, 1) := by decide +kernel
theorem dX2_multiplyAt_43 : decode cX2_multiplyAt 43 = .ok (.iadd, 1) := by decide +kernel
theorem dX2_multiplyAt_44 : decode cX2_multiplyAt 44 = .ok (.iload 7, 2) := by decide +kernel
theorem dX2_multiplyAt_46 : decode cX2_multiplyAt 46 = .ok (.iadd, 1) := by decide +kernel
theorem dX2_multiplyAt_47 : decode cX2_multiplyAt 47 = .ok (.istore 8, 2) := by decide +kernel
theorem dX2_multiplyAt_49 : decode cX2_multiplyAt 49 = .ok (.aload_n 2, 1) := by decide +kernel
theorem dX2_multiplyAt_50 : decode cX2_multiplyAt 50 = .ok (.iload 6, 2) := by decide +kernel
theorem dX2_multiplyAt_52 : decode cX2_multiplyAt 52 = .ok (.laload, 1) := by decide +kernel
theorem dX2_multiplyAt_53 : decode cX2_multiplyAt 53 = .ok (.aload_n 3, 1) := by decide +kernel
theorem dX2_multiplyAt_54 : decode cX2_multiplyAt 54 = .ok (.iload 7, 2) := by decide +kernel
theorem dX2_multiplyAt_56 : decode cX2_multiplyAt 56 = .ok (.laload, 1) := by decide +kernel
theorem dX2_multiplyAt_57 : decode cX2_multiplyAt 57 = .ok (.invokestatic 56, 3) := by decide +kernel
theorem dX2_multiplyAt_60 : decode cX2_multiplyAt 60 = .ok (.ifCond .ne 14, 3) := by decide +kernel
theorem dX2_multiplyAt_63 : decode cX2_multiplyAt 63 = .ok (.aload_n 0, 1) := by decide +kernel
theorem dX2_multiplyAt_64 : decode cX2_multiplyAt 64 = .ok (.getfield 25, 3) := by decide +kernel
theorem dX2_multiplyAt_67 : decode cX2_multiplyAt 67 = .ok (.iconst 1, 1) := by decide +kernel
theorem dX2_multiplyAt_68 : decode cX2_multiplyAt 68 = .ok (.iload 8, 2) := by decide +kernel
theorem dX2_multiplyAt_70 : decode cX2_multiplyAt 70 = .ok (.invokevirtual 39, 3) := by decide +kernel
theorem dX2_multiplyAt_73 : decode cX2_multiplyAt 73 = .ok (.ireturn, 1) := by decide +kernel
theorem dX2_multiplyAt_74 : decode cX2_multiplyAt 74 = .ok (.aload_n 2, 1) := by decide +kernel
theorem dX2_multiplyAt_75 : decode cX2_multiplyAt 75 = .ok (.iload 6, 2) := by decide +kernel
theorem dX2_multiplyAt_77 : decode cX2_multiplyAt 77 = .ok (.laload, 1) := by decide +kernel
theorem dX2_multiplyAt_78 : decode cX2_multiplyAt 78 = .ok (.aload_n 3, 1) := by decide +kernel
theorem dX2_multiplyAt_79 : decode cX2_multiplyAt 79 = .ok (.iload 7, 2) := by decide +kernel
theorem dX2_multiplyAt_81 : decode cX2_multiplyAt 81 = .ok (.laload, 1) := by decide +kernel
theorem dX2_multiplyAt_82 : decode cX2_multiplyAt 82 = .ok (.lmul, 1) := by decide +kernel
theorem dX2_multiplyAt_83 : decode cX2_multiplyAt 83 = .ok (.lstore 9, 2) := by decide +kernel
theorem dX2_multiplyAt_85 : decode cX2_multiplyAt 85 = .ok (.aload_n 0, 1) := by decide +kernel
theorem dX2_multiplyAt_86 : decode cX2_multiplyAt 86 = .ok (.getfield 21, 3) := by decide +kernel
theorem dX2_multiplyAt_89 : decode cX2_multiplyAt 89 = .ok (.getfield 59, 3) := by decide +kernel
theorem dX2_multiplyAt_92 : decode cX2_multiplyAt 92 = .ok (.iload 6, 2) := by decide +kernel
theorem dX2_multiplyAt_94 : decode cX2_multiplyAt 94 = .ok (.iload 7, 2) := by decide +kernel
theorem dX2_multiplyAt_96 : decode cX2_multiplyAt 96 = .ok (.iload_n 1, 1) := by decide +kernel
theorem dX2_multiplyAt_97 : decode cX2_multiplyAt 97 = .ok (.invokestatic 63, 3) := by decide +kernel
theorem dX2_multiplyAt_100 : decode cX2_multiplyAt 100 = .ok (.iaload, 1) := by decide +kernel
theorem dX2_multiplyAt_101 : decode cX2_multiplyAt 101 = .ok (.i2l, 1) := by decide +kernel
theorem dX2_multiplyAt_102 : decode cX2_multiplyAt 102 = .ok (.lstore 11, 2) := by decide +kernel
theorem dX2_multiplyAt_104 : decode cX2_multiplyAt 104 = .ok (.lload 9, 2) := by decide +kernel
theorem dX2_multiplyAt_106 : decode cX2_multiplyAt 106 = .ok (.lload 11, 2) := by decide +kernel
theorem dX2_multiplyAt_108 : decode cX2_multiplyAt 108 = .ok (.invokestatic 56, 3) := by decide +kernel
theorem dX2_multiplyAt_111 : decode cX2_multiplyAt 111 = .ok (.ifCond .ne 14, 3) := by decide +kernel
theorem dX2_multiplyAt_114 : decode cX2_multiplyAt 114 = .ok (.aload_n 0, 1) := by decide +kernel
theorem dX2_multiplyAt_115 : decode cX2_multiplyAt 115 = .ok (.getfield 25, 3) := by decide +kernel
theorem dX2_multiplyAt_118 : decode cX2_multiplyAt 118 = .ok (.iconst 2, 1) := by decide +kernel
theorem dX2_multiplyAt_119 : decode cX2_multiplyAt 119 = .ok (.iload 8, 2) := by decide +kernel
theorem dX2_multiplyAt_121 : decode cX2_multiplyAt 121 = .ok (.invokevirtual 39, 3) := by decide +kernel
theorem dX2_multiplyAt_124 : decode cX2_multiplyAt 124 = .ok (.ireturn, 1) := by decide +kernel
theorem dX2_multiplyAt_125 : decode cX2_multiplyAt 125 = .ok (.lload 9, 2) := by decide +kernel
theorem dX2_multiplyAt_127 : decode cX2_multiplyAt 127 = .ok (.lload 11, 2) := by decide +kernel
theorem dX2_multiplyAt_129 : decode cX2_multiplyAt 129 = .ok (.lmul, 1) := by decide +kernel
theorem dX2_multiplyAt_130 : decode cX2_multiplyAt 130 = .ok (.lstore 13, 2) := by decide +kernel
theorem dX2_multiplyAt_132 : decode cX2_multiplyAt 132 = .ok (.lload 4, 2) := by decide +kernel
theorem dX2_multiplyAt_134 : decode cX2_multiplyAt 134 = .ok (.lload 13, 2) := by decide +kernel
theorem dX2_multiplyAt_136 : decode cX2_multiplyAt 136 = .ok (.invokestatic 35, 3) := by decide +kernel
theorem dX2_multiplyAt_139 : decode cX2_multiplyAt 139 = .ok (.ifCond .ne 14, 3) := by decide +kernel
theorem dX2_multiplyAt_142 : decode cX2_multiplyAt 142 = .ok (.aload_n 0, 1) := by decide +kernel
theorem dX2_multiplyAt_143 : decode cX2_multiplyAt 143 = .ok (.getfield 25, 3) := by decide +kernel
theorem dX2_multiplyAt_146 : decode cX2_multiplyAt 146 = .ok (.iconst 3, 1) := by decide +kernel
theorem dX2_multiplyAt_147 : decode cX2_multiplyAt 147 = .ok (.iload 8, 2) := by decide +kernel
theorem dX2_multiplyAt_149 : decode cX2_multiplyAt 149 = .ok (.invokevirtual 39, 3) := by decide +kernel
theorem dX2_multiplyAt_152 : decode cX2_multiplyAt 152 = .ok (.ireturn, 1) := by decide +kernel
theorem dX2_multiplyAt_153 : decode cX2_multiplyAt 153 = .ok (.lload 4, 2) := by decide +kernel
theorem dX2_multiplyAt_155 : decode cX2_multiplyAt 155 = .ok (.lload 13, 2) := by decide +kernel
theorem dX2_multiplyAt_157 : decode cX2_multiplyAt 157 = .ok (.ladd, 1) := by decide +kernel
theorem dX2_multiplyAt_158 : decode cX2_multiplyAt 158 = .ok (.lstore 4, 2) := by decide +kernel
theorem dX2_multiplyAt_160 : decode cX2_multiplyAt 160 = .ok (.iinc 7 1, 3) := by decide +kernel
theorem dX2_multiplyAt_163 : decode cX2_multiplyAt 163 = .ok (.goto (-142), 3) := by decide +kernel
theorem dX2_multiplyAt_166 : decode cX2_multiplyAt 166 = .ok (.iinc 6 1, 3) := by decide +kernel
theorem dX2_multiplyAt_169 : decode cX2_multiplyAt 169 = .ok (.goto (-163), 3) := by decide +kernel
theorem dX2_multiplyAt_172 : decode cX2_multiplyAt 172 = .ok (.aload_n 0, 1) := by decide +kernel
theorem dX2_multiplyAt_173 : decode cX2_multiplyAt 173 = .ok (.getfield 9, 3) := by decide +kernel
theorem dX2_multiplyAt_176 : decode cX2_multiplyAt 176 = .ok (.iload_n 1, 1) := by decide +kernel
theorem dX2_multiplyAt_177 : decode cX2_multiplyAt 177 = .ok (.lload 4, 2) := by decide +kernel
theorem dX2_multiplyAt_179 : decode cX2_multiplyAt 179 = .ok (.lastore, 1) := by decide +kernel
theorem dX2_multiplyAt_180 : decode cX2_multiplyAt 180 = .ok (.iconst 1, 1) := by decide +kernel
theorem dX2_multiplyAt_181 : decode cX2_multiplyAt 181 = .ok (.ireturn, 1) := by decide +kernel
section
variable {p : Program} {l : Launch} {e : Env} {s : State} {m : MethodId} {args : Array Value} {below : List Frame} {meth : Method} {c : Code} {Q : State → Prop} {G : GG} {A : Nat → Prop} {q : Nat → Nat} {fr : va_W}
def f_X2_multiplyAt_L21 (ze : Int32) (aF : Nat → Int32) (aOs : Nat → Int32) (aOn : Nat → Int32) (v1 : Int32) (r2 : Nat) (r3 : Nat) (KK : Int32 → (Nat → Int32) → (Nat → Int32) → Int32 → (Nat → Nat → Int64) → Int64 → Int32 → Option (Int32 × Int32 × (Nat → Int32) × (Nat → Int32) × Int32 × (Nat → Nat → Int64))) : Nat → Int32 → (Nat → Int32) → (Nat → Int32) → Int32 → (Nat → Nat → Int64) → Int64 → Int32 → Int32 → Option (Int32 × Int32 × (Nat → Int32) × (Nat → Int32) × Int32 × (Nat → Nat → Int64))
  | 0, _, _, _, _, _, _, _, _ => none
  | fu + 1, ztc, aTs, aTn, zoc, M, v4, v6, v7 =>
    if ze ≤ v7 then
    KK ztc aTs aTn zoc M v4 (v6 + 1)
    else
    if inb v6 (rl r2) then
    if inb v7 (rl r3) then
    (f_X2_productFits (M r2 v6.toNatClampNeg) (M r3 v7.toNatClampNeg)).bind fun z4 =>
    if z4 = 0 then
    (f_X3_report ztc aTs aTn zoc aOs aOn 1 (((10000 * v1) + (100 * v6)) + v7)).bind fun z18 =>
    if z18.1 = 0 ∨ z18.1 = 1 then
    some (z18.1, z18.2.1, z18.2.2.1, z18.2.2.2.1, z18.2.2.2.2, M)
    else none
    else
    if inb v6 (rl r2) then
    if inb v7 (rl r3) then
    (f_X4_factorIndex v6 v7 v1).bind fun z8 =>
    if inb z8 1728 then
    (f_X2_productFits ((M r2 v6.toNatClampNeg) * (M r3 v7.toNatClampNeg)) ((aF z8.toNatClampNeg).toInt64)).bind fun z10 =>
    if z10 = 0 then
    (f_X3_report ztc aTs aTn zoc aOs aOn 2 (((10000 * v1) + (100 * v6)) + v7)).bind fun z16 =>
    if z16.1 = 0 ∨ z16.1 = 1 then
    some (z16.1, z16.2.1, z16.2.2.1, z16.2.2.2.1, z16.2.2.2.2, M)
    else none
    else
    (f_X2_sumFits v4 (((M r2 v6.toNatClampNeg) * (M r3 v7.toNatClampNeg)) * (aF z8.toNatClampNeg).toInt64)).bind fun z12 =>
    if z12 = 0 then
    (f_X3_report ztc aTs aTn zoc aOs aOn 3 (((10000 * v1) + (100 * v6)) + v7)).bind fun z14 =>
    if z14.1 = 0 ∨ z14.1 = 1 then
    some (z14.1, z14.2.1, z14.2.2.1, z14.2.2.2.1, z14.2.2.2.2, M)
    else none
    else
    f_X2_multiplyAt_L21 ze aF aOs aOn v1 r2 r3 KK fu ztc aTs aTn zoc M (v4 + (((M r2 v6.toNatClampNeg) * (M r3 v7.toNatClampNeg)) * (aF z8.toNatClampNeg).toInt64)) v6 (v7 + 1)
    else none
    else none
    else none
    else none
    else none
set_option maxHeartbeats 4000000 in
set_option maxRecDepth 100000 in
theorem w_X2_multiplyAt_L21  {zp : Int32} {ze : Int32} {zf : Int32} {zg : Int32} {zn : Int32} {aG : Nat → Int32} {aW : Nat → Int32} {aR : Nat → Int32} {aN : Nat → Int32} {aF : Nat → Int32} {lC : Nat → Int64} {lS : Nat → Int64} {lP : Nat → Int64} {lX : Nat → Int64} {aOs : Nat → Int32} {aOn : Nat → Int32} {aTp : Nat → Int32} {zln : Int32} {zpl : Int32} {zfa : Int32} {aSz : Nat → Int32} {zit : Int32} {zip : Int32} {zic : Int32} {zig : Int32} {v1 : Int32} {r2 : Nat} {r3 : Nat} {KK : Int32 → (Nat → Int32) → (Nat → Int32) → Int32 → (Nat → Nat → Int64) → Int64 → Int32 → Option (Int32 × Int32 × (Nat → Int32) × (Nat → Int32) × Int32 × (Nat → Nat → Int64))} (F : Fx p s m args meth c cX2_multiplyAt 15 RX2 (some .boolean)) (hA : ∀ q, s.heap.size ≤ q → A q) (hr2 : r2 < 32) (hr3 : r3 < 32) (hK : ∀ (ztc : Int32) (aTs : Nat → Int32) (aTn : Nat → Int32) (zoc : Int32) (M : Nat → Nat → Int64) (v4 : Int64) (v6 : Int32) (z : Int32 × Int32 × (Nat → Int32) × (Nat → Int32) × Int32 × (Nat → Nat → Int64)), KK ztc aTs aTn zoc M v4 v6 = some z → Ends p l e (rmOf 1 25) s m args below meth c Q cX2_multiplyAt G A (some .boolean) (some (.int z.1)) (kW G q zp ze zf zg zn aG aW aR aN aF lC lS lP lX ++ (oW G q z.2.1 z.2.2.1 z.2.2.2.1 z.2.2.2.2.1 aOs aOn aTp zln zpl zfa aSz zit zip zic zig z.2.2.2.2.2 ++ fr)) → ∀ (H : Heap) (locs : List Loc) (ls : Array Slot), Wd G s A (kW G q zp ze zf zg zn aG aW aR aN aF lC lS lP lX ++ (oW G q ztc aTs aTn zoc aOs aOn aTp zln zpl zfa aSz zit zip zic zig M ++ fr)) H locs → lv_has ls 15 [(0, .ref (q 15)), (1, .int v1), (2, .ref (q (26 + r2))), (3, .ref (q (26 + r3))), (4, .long v4), (6, .int v6)] → W p l e (rmOf 1 25) s m args below meth c H locs 0 0 Q (F0 m 6 ls [])) : ∀ (fu : Nat) (ztc : Int32) (aTs : Nat → Int32) (aTn : Nat → Int32) (zoc : Int32) (M : Nat → Nat → Int64) (v4 : Int64) (v6 : Int32) (v7 : Int32) (z : Int32 × Int32 × (Nat → Int32) × (Nat → Int32) × Int32 × (Nat → Nat → Int64)), f_X2_multiplyAt_L21 ze aF aOs aOn v1 r2 r3 KK fu ztc aTs aTn zoc M v4 v6 v7 = some z → Ends p l e (rmOf 1 25) s m args below meth c Q cX2_multiplyAt G A (some .boolean) (some (.int z.1)) (kW G q zp ze zf zg zn aG aW aR aN aF lC lS lP lX ++ (oW G q z.2.1 z.2.2.1 z.2.2.2.1 z.2.2.2.2.1 aOs aOn aTp zln zpl zfa aSz zit zip zic zig z.2.2.2.2.2 ++ fr)) → ∀ (H : Heap) (locs : List Loc) (ls : Array Slot), Wd G s A (kW G q zp ze zf zg zn aG aW aR aN aF lC lS lP lX ++ (oW G q ztc aTs aTn zoc aOs aOn aTp zln zpl zfa aSz zit zip zic zig M ++ fr)) H locs → lv_has ls 15 [(0, .ref (q 15)), (1, .int v1), (2, .ref (q (26 + r2))), (3, .ref (q (26 + r3))), (4, .long v4), (6, .int v6), (7, .int v7)] → W p l e (rmOf 1 25) s m args below meth c H locs 0 0 Q (F0 m 21 ls []) := by
  have hx := F.x
  have hb := F.b
  intro fu
  induction fu with
  | zero =>
    intro ztc aTs aTn zoc M v4 v6 v7 z h
    cases (h : none = some z)
  | succ fu ih =>
    intro ztc aTs aTn zoc M v4 v6 v7 z h hE H locs ls hw hl
    rw [f_X2_multiplyAt_L21] at h
    refine lv_iload hx hb dX2_multiplyAt_21 (lv_at hl 6 rfl) ?_
    refine lv_aload_n hx hb dX2_multiplyAt_23 rfl (lv_at hl 0 rfl) ?_
    refine gf_2_21 F hw dX2_multiplyAt_24 ?_
    refine gf_2_29 F hw dX2_multiplyAt_27 ?_
    refine lv_icmp_ge (tgt := 166) hx hb dX2_multiplyAt_30 (by decide) (fun c1 => ?_) (fun c1 => ?_)
    · replace h := stT c1 h
      refine lv_iinc (v := (v6 + 1)) (lv' := [(6, .int (v6 + 1)), (0, .ref (q 15)), (1, .int v1), (2, .ref (q (26 + r2))), (3, .ref (q (26 + r3))), (4, .long v4), (7, .int v7)]) hx hb dX2_multiplyAt_166 hl (k := 5) rfl rfl (by decide) rfl (fun ls hl => ?_)
      refine lv_goto (tgt := 6) hx hb dX2_multiplyAt_169 (by decide) ?_
      exact hK _ _ _ _ _ _ _ z h hE H locs ls hw (lv_sub hl [1, 2, 3, 4, 5, 0] rfl)
    · replace h := stF c1 h
      refine lv_sipush (v := 10000) hx hb dX2_multiplyAt_33 (by decide) ?_
      refine lv_iload_n hx hb dX2_multiplyAt_36 rfl (lv_at hl 1 rfl) ?_
      refine lv_imul hx hb dX2_multiplyAt_37 ?_
      refine lv_bipush (v := 100) hx hb dX2_multiplyAt_38 (by decide) ?_
      refine lv_iload hx hb dX2_multiplyAt_40 (lv_at hl 5 rfl) ?_
      refine lv_imul hx hb dX2_multiplyAt_42 ?_
      refine lv_iadd hx hb dX2_multiplyAt_43 ?_
      refine lv_iload hx hb dX2_multiplyAt_44 (lv_at hl 6 rfl) ?_
      refine lv_iadd hx hb dX2_multiplyAt_46 ?_
      refine lv_istore (lv' := [(8, .int (((10000 * v1) + (100 * v6)) + v7)), (0, .ref (q 15)), (1, .int v1), (2, .ref (q (26 + r2))), (3, .ref (q (26 + r3))), (4, .long v4), (6, .int v6), (7, .int v7)]) hx hb dX2_multiplyAt_47 hl (by decide) rfl (fun ls hl => ?_)
      refine lv_aload_n hx hb dX2_multiplyAt_49 rfl (lv_at hl 3 rfl) ?_
      refine lv_iload hx hb dX2_multiplyAt_50 (lv_at hl 6 rfl) ?_
      obtain ⟨g2, h⟩ := stG h
      refine al_row F hw hr2 g2 dX2_multiplyAt_52 ?_
      refine lv_aload_n hx hb dX2_multiplyAt_53 rfl (lv_at hl 4 rfl) ?_
      refine lv_iload hx hb dX2_multiplyAt_54 (lv_at hl 7 rfl) ?_
      obtain ⟨g3, h⟩ := stG h
      refine al_row F hw hr3 g3 dX2_multiplyAt_56 ?_
      obtain ⟨z4, hz4, h⟩ := stB h
      refine ctS (av := [.long (M r2 v6.toNatClampNeg), .long (M r3 v7.toNatClampNeg)]) (st0 := ([] : List Value)) (st1 := ([.int z4] : List Value)) F hw hA (k_X2_productFits hz4) kl_2_56 kd_X2_productFits rfl ⟨by decide, by decide⟩ hl.1 rfl (Nat.le_of_ble_eq_true rfl) dX2_multiplyAt_57 rfl (fun H locs hw => ?_)
      refine lv_if_ne (tgt := 74) hx hb dX2_multiplyAt_60 (by decide) (fun c5 => ?_) (fun c5 => ?_)
      · replace h := stF c5 h
        refine lv_aload_n hx hb dX2_multiplyAt_74 rfl (lv_at hl 3 rfl) ?_
        refine lv_iload hx hb dX2_multiplyAt_75 (lv_at hl 6 rfl) ?_
        obtain ⟨g6, h⟩ := stG h
        refine al_row F hw hr2 g6 dX2_multiplyAt_77 ?_
        refine lv_aload_n hx hb dX2_multiplyAt_78 rfl (lv_at hl 4 rfl) ?_
        refine lv_iload hx hb dX2_multiplyAt_79 (lv_at hl 7 rfl) ?_
        obtain ⟨g7, h⟩ := stG h
        refine al_row F hw hr3 g7 dX2_multiplyAt_81 ?_
        refine lv_lmul hx hb dX2_multiplyAt_82 ?_
        refine lv_lstore (lv' := [(9, .long ((M r2 v6.toNatClampNeg) * (M r3 v7.toNatClampNeg))), (8, .int (((10000 * v1) + (100 * v6)) + v7)), (0, .ref (q 15)), (1, .int v1), (2, .ref (q (26 + r2))), (3, .ref (q (26 + r3))), (4, .long v4), (6, .int v6), (7, .int v7)]) hx hb dX2_multiplyAt_83 hl (by decide) rfl (fun ls hl => ?_)
        refine lv_aload_n hx hb dX2_multiplyAt_85 rfl (lv_at hl 2 rfl) ?_
        refine gf_2_21 F hw dX2_multiplyAt_86 ?_
        refine gf_2_59 F hw dX2_multiplyAt_89 ?_
        refine lv_iload hx hb dX2_multiplyAt_92 (lv_at hl 7 rfl) ?_
        refine lv_iload hx hb dX2_multiplyAt_94 (lv_at hl 8 rfl) ?_
        refine lv_iload_n hx hb dX2_multiplyAt_96 rfl (lv_at hl 3 rfl) ?_
        obtain ⟨z8, hz8, h⟩ := stB h
        refine ctSN (av := [.int v6, .int v7, .int v1]) (st0 := ([.ref (q 5)] : List Value)) (st1 := ([.int z8, .ref (q 5)] : List Value)) (host := RX4) F hw hA (k_X4_factorIndex hz8) (by decide +kernel) kn_X4_factorIndex ki_4 ks_X4_factorIndex kd_X4_factorIndex rfl ⟨by decide, by decide⟩ hl.1 rfl (Nat.le_of_ble_eq_true rfl) dX2_multiplyAt_97 rfl (fun H locs hw => ?_)
        obtain ⟨g9, h⟩ := stG h
        refine al_c5 F hw g9 dX2_multiplyAt_100 ?_
        refine lv_i2l (v := (aF z8.toNatClampNeg).toInt64) hx hb dX2_multiplyAt_101 rfl ?_
        refine lv_lstore (lv' := [(11, .long ((aF z8.toNatClampNeg).toInt64)), (9, .long ((M r2 v6.toNatClampNeg) * (M r3 v7.toNatClampNeg))), (8, .int (((10000 * v1) + (100 * v6)) + v7)), (0, .ref (q 15)), (1, .int v1), (2, .ref (q (26 + r2))), (3, .ref (q (26 + r3))), (4, .long v4), (6, .int v6), (7, .int v7)]) hx hb dX2_multiplyAt_102 hl (by decide) rfl (fun ls hl => ?_)
        refine lv_lload hx hb dX2_multiplyAt_104 (lv_at hl 1 rfl) ?_
        refine lv_lload hx hb dX2_multiplyAt_106 (lv_at hl 0 rfl) ?_
        obtain ⟨z10, hz10, h⟩ := stB h
        refine ctS (av := [.long ((M r2 v6.toNatClampNeg) * (M r3 v7.toNatClampNeg)), .long ((aF z8.toNatClampNeg).toInt64)]) (st0 := ([] : List Value)) (st1 := ([.int z10] : List Value)) F hw hA (k_X2_productFits hz10) kl_2_56 kd_X2_productFits rfl ⟨by decide, by decide⟩ hl.1 rfl (Nat.le_of_ble_eq_true rfl) dX2_multiplyAt_108 rfl (fun H locs hw => ?_)
        refine lv_if_ne (tgt := 125) hx hb dX2_multiplyAt_111 (by decide) (fun c11 => ?_) (fun c11 => ?_)
        · replace h := stF c11 h
          refine lv_lload hx hb dX2_multiplyAt_125 (lv_at hl 1 rfl) ?_
          refine lv_lload hx hb dX2_multiplyAt_127 (lv_at hl 0 rfl) ?_
          refine lv_lmul hx hb dX2_multiplyAt_129 ?_
          refine lv_lstore (lv' := [(13, .long (((M r2 v6.toNatClampNeg) * (M r3 v7.toNatClampNeg)) * (aF z8.toNatClampNeg).toInt64)), (11, .long ((aF z8.toNatClampNeg).toInt64)), (9, .long ((M r2 v6.toNatClampNeg) * (M r3 v7.toNatClampNeg))), (8, .int (((10000 * v1) + (100 * v6)) + v7)), (0, .ref (q 15)), (1, .int v1), (2, .ref (q (26 + r2))), (3, .ref (q (26 + r3))), (4, .long v4), (6, .int v6), (7, .int v7)]) hx hb dX2_multiplyAt_130 hl (by decide) rfl (fun ls hl => ?_)
          refine lv_lload hx hb dX2_multiplyAt_132 (lv_at hl 8 rfl) ?_
          refine lv_lload hx hb dX2_multiplyAt_134 (lv_at hl 0 rfl) ?_
          obtain ⟨z12, hz12, h⟩ := stB h
          refine ctS (av := [.long v4, .long (((M r2 v6.toNatClampNeg) * (M r3 v7.toNatClampNeg)) * (aF z8.toNatClampNeg).toInt64)]) (st0 := ([] : List Value)) (st1 := ([.int z12] : List Value)) F hw hA (k_X2_sumFits hz12) kl_2_35 kd_X2_sumFits rfl ⟨by decide, by decide⟩ hl.1 rfl (Nat.le_of_ble_eq_true rfl) dX2_multiplyAt_136 rfl (fun H locs hw => ?_)
          refine lv_if_ne (tgt := 153) hx hb dX2_multiplyAt_139 (by decide) (fun c13 => ?_) (fun c13 => ?_)
          · replace h := stF c13 h
            refine lv_lload hx hb dX2_multiplyAt_153 (lv_at hl 8 rfl) ?_
            refine lv_lload hx hb dX2_multiplyAt_155 (lv_at hl 0 rfl) ?_
            refine lv_ladd hx hb dX2_multiplyAt_157 ?_
            refine lv_lstore (lv' := [(4, .long (v4 + (((M r2 v6.toNatClampNeg) * (M r3 v7.toNatClampNeg)) * (aF z8.toNatClampNeg).toInt64))), (13, .long (((M r2 v6.toNatClampNeg) * (M r3 v7.toNatClampNeg)) * (aF z8.toNatClampNeg).toInt64)), (11, .long ((aF z8.toNatClampNeg).toInt64)), (9, .long ((M r2 v6.toNatClampNeg) * (M r3 v7.toNatClampNeg))), (8, .int (((10000 * v1) + (100 * v6)) + v7)), (0, .ref (q 15)), (1, .int v1), (2, .ref (q (26 + r2))), (3, .ref (q (26 + r3))), (6, .int v6), (7, .int v7)]) hx hb dX2_multiplyAt_158 hl (by decide) rfl (fun ls hl => ?_)
            refine lv_iinc (v := (v7 + 1)) (lv' := [(7, .int (v7 + 1)), (4, .long (v4 + (((M r2 v6.toNatClampNeg) * (M r3 v7.toNatClampNeg)) * (aF z8.toNatClampNeg).toInt64))), (13, .long (((M r2 v6.toNatClampNeg) * (M r3 v7.toNatClampNeg)) * (aF z8.toNatClampNeg).toInt64)), (11, .long ((aF z8.toNatClampNeg).toInt64)), (9, .long ((M r2 v6.toNatClampNeg) * (M r3 v7.toNatClampNeg))), (8, .int (((10000 * v1) + (100 * v6)) + v7)), (0, .ref (q 15)), (1, .int v1), (2, .ref (q (26 + r2))), (3, .ref (q (26 + r3))), (6, .int v6)]) hx hb dX2_multiplyAt_160 hl (k := 10) rfl rfl (by decide) rfl (fun ls hl => ?_)
            refine lv_goto (tgt := 21) hx hb dX2_multiplyAt_163 (by decide) ?_
            exact ih _ _ _ _ _ _ _ _ z h hE H locs ls hw (lv_sub hl [6, 7, 8, 9, 1, 10, 0] rfl)
          · replace h := stT c13 h
            refine lv_aload_n hx hb dX2_multiplyAt_142 rfl (lv_at hl 4 rfl) ?_
            refine gf_2_25 F hw dX2_multiplyAt_143 ?_
            refine lv_iconst (v := 3) hx hb dX2_multiplyAt_146 (by decide) ?_
            refine lv_iload hx hb dX2_multiplyAt_147 (lv_at hl 3 rfl) ?_
            obtain ⟨z14, hz14, h⟩ := stB h
            refine ctV (av := [.int 3, .int (((10000 * v1) + (100 * v6)) + v7)]) (st0 := ([] : List Value)) (st1 := ([.int z14.1] : List Value)) F hw hA (k_X3_report hz14) kl_2_39 kd_X3_report rfl ⟨by decide, by decide⟩ 10 rfl rfl hl.1 rfl (Nat.le_of_ble_eq_true rfl) dX2_multiplyAt_149 rfl (fun H locs hw => ?_)
            obtain ⟨g15, h⟩ := stG h
            obtain rfl := Option.some.inj h
            exact hE H locs _ ls hw g15 dX2_multiplyAt_152
        · replace h := stT c11 h
          refine lv_aload_n hx hb dX2_multiplyAt_114 rfl (lv_at hl 3 rfl) ?_
          refine gf_2_25 F hw dX2_multiplyAt_115 ?_
          refine lv_iconst (v := 2) hx hb dX2_multiplyAt_118 (by decide) ?_
          refine lv_iload hx hb dX2_multiplyAt_119 (lv_at hl 2 rfl) ?_
          obtain ⟨z16, hz16, h⟩ := stB h
          refine ctV (av := [.int 2, .int (((10000 * v1) + (100 * v6)) + v7)]) (st0 := ([] : List Value)) (st1 := ([.int z16.1] : List Value)) F hw hA (k_X3_report hz16) kl_2_39 kd_X3_report rfl ⟨by decide, by decide⟩ 10 rfl rfl hl.1 rfl (Nat.le_of_ble_eq_true rfl) dX2_multiplyAt_121 rfl (fun H locs hw => ?_)
          obtain ⟨g17, h⟩ := stG h
          obtain rfl := Option.some.inj h
          exact hE H locs _ ls hw g17 dX2_multiplyAt_124
      · replace h := stT c5 h
        refine lv_aload_n hx hb dX2_multiplyAt_63 rfl (lv_at hl 1 rfl) ?_
        refine gf_2_25 F hw dX2_multiplyAt_64 ?_
        refine lv_iconst (v := 1) hx hb dX2_multiplyAt_67 (by decide) ?_
        refine lv_iload hx hb dX2_multiplyAt_68 (lv_at hl 0 rfl) ?_
        obtain ⟨z18, hz18, h⟩ := stB h
        refine ctV (av := [.int 1, .int (((10000 * v1) + (100 * v6)) + v7)]) (st0 := ([] : List Value)) (st1 := ([.int z18.1] : List Value)) F hw hA (k_X3_report hz18) kl_2_39 kd_X3_report rfl ⟨by decide, by decide⟩ 10 rfl rfl hl.1 rfl (Nat.le_of_ble_eq_true rfl) dX2_multiplyAt_70 rfl (fun H locs hw => ?_)
        obtain ⟨g19, h⟩ := stG h
        obtain rfl := Option.some.inj h
        exact hE H locs _ ls hw g19 dX2_multiplyAt_73
def f_X2_multiplyAt_L6 (ze : Int32) (aF : Nat → Int32) (aOs : Nat → Int32) (aOn : Nat → Int32) (v1 : Int32) (r2 : Nat) (r3 : Nat) : Nat → Int32 → (Nat → Int32) → (Nat → Int32) → Int32 → (Nat → Nat → Int64) → Int64 → Int32 → Option (Int32 × Int32 × (Nat → Int32) × (Nat → Int32) × Int32 × (Nat → Nat → Int64))
  | 0, _, _, _, _, _, _, _ => none
  | fu + 1, ztc, aTs, aTn, zoc, M, v4, v6 =>
    if ze ≤ v6 then
    if inb v1 (rl 29) then
    some (1, ztc, aTs, aTn, zoc, (va_up M 29 (vp_updL (M 29) v1.toNatClampNeg v4)))
    else none
    else
    f_X2_multiplyAt_L21 ze aF aOs aOn v1 r2 r3 (fun w0 w1 w2 w3 w4 w5 w6 => f_X2_multiplyAt_L6 ze aF aOs aOn v1 r2 r3 fu w0 w1 w2 w3 w4 w5 w6) FU ztc aTs aTn zoc M v4 v6 0
set_option maxHeartbeats 4000000 in
set_option maxRecDepth 100000 in
theorem w_X2_multiplyAt_L6  {zp : Int32} {ze : Int32} {zf : Int32} {zg : Int32} {zn : Int32} {aG : Nat → Int32} {aW : Nat → Int32} {aR : Nat → Int32} {aN : Nat → Int32} {aF : Nat → Int32} {lC : Nat → Int64} {lS : Nat → Int64} {lP : Nat → Int64} {lX : Nat → Int64} {aOs : Nat → Int32} {aOn : Nat → Int32} {aTp : Nat → Int32} {zln : Int32} {zpl : Int32} {zfa : Int32} {aSz : Nat → Int32} {zit : Int32} {zip : Int32} {zic : Int32} {zig : Int32} {v1 : Int32} {r2 : Nat} {r3 : Nat}  (F : Fx p s m args meth c cX2_multiplyAt 15 RX2 (some .boolean)) (hA : ∀ q, s.heap.size ≤ q → A q) (hr2 : r2 < 32) (hr3 : r3 < 32)  : ∀ (fu : Nat) (ztc : Int32) (aTs : Nat → Int32) (aTn : Nat → Int32) (zoc : Int32) (M : Nat → Nat → Int64) (v4 : Int64) (v6 : Int32) (z : Int32 × Int32 × (Nat → Int32) × (Nat → Int32) × Int32 × (Nat → Nat → Int64)), f_X2_multiplyAt_L6 ze aF aOs aOn v1 r2 r3 fu ztc aTs aTn zoc M v4 v6 = some z → Ends p l e (rmOf 1 25) s m args below meth c Q cX2_multiplyAt G A (some .boolean) (some (.int z.1)) (kW G q zp ze zf zg zn aG aW aR aN aF lC lS lP lX ++ (oW G q z.2.1 z.2.2.1 z.2.2.2.1 z.2.2.2.2.1 aOs aOn aTp zln zpl zfa aSz zit zip zic zig z.2.2.2.2.2 ++ fr)) → ∀ (H : Heap) (locs : List Loc) (ls : Array Slot), Wd G s A (kW G q zp ze zf zg zn aG aW aR aN aF lC lS lP lX ++ (oW G q ztc aTs aTn zoc aOs aOn aTp zln zpl zfa aSz zit zip zic zig M ++ fr)) H locs → lv_has ls 15 [(0, .ref (q 15)), (1, .int v1), (2, .ref (q (26 + r2))), (3, .ref (q (26 + r3))), (4, .long v4), (6, .int v6)] → W p l e (rmOf 1 25) s m args below meth c H locs 0 0 Q (F0 m 6 ls []) := by
  have hx := F.x
  have hb := F.b
  intro fu
  induction fu with
  | zero =>
    intro ztc aTs aTn zoc M v4 v6 z h
    cases (h : none = some z)
  | succ fu ih =>
    intro ztc aTs aTn zoc M v4 v6 z h hE H locs ls hw hl
    rw [f_X2_multiplyAt_L6] at h
    refine lv_iload hx hb dX2_multiplyAt_6 (lv_at hl 5 rfl) ?_
    refine lv_aload_n hx hb dX2_multiplyAt_8 rfl (lv_at hl 0 rfl) ?_
    refine gf_2_21 F hw dX2_multiplyAt_9 ?_
    refine gf_2_29 F hw dX2_multiplyAt_12 ?_
    refine lv_icmp_ge (tgt := 172) hx hb dX2_multiplyAt_15 (by decide) (fun c1 => ?_) (fun c1 => ?_)
    · replace h := stT c1 h
      refine lv_aload_n hx hb dX2_multiplyAt_172 rfl (lv_at hl 0 rfl) ?_
      refine gf_2_9 F hw dX2_multiplyAt_173 ?_
      refine lv_iload_n hx hb dX2_multiplyAt_176 rfl (lv_at hl 1 rfl) ?_
      refine lv_lload hx hb dX2_multiplyAt_177 (lv_at hl 4 rfl) ?_
      obtain ⟨g2, h⟩ := stG h
      refine as_row F hw (by decide) g2 dX2_multiplyAt_179 (fun H locs hw => ?_)
      refine lv_iconst (v := 1) hx hb dX2_multiplyAt_180 (by decide) ?_
      obtain rfl := Option.some.inj h
      exact hE H locs _ ls hw (Or.inr rfl) dX2_multiplyAt_181
    · replace h := stF c1 h
      refine lv_iconst (v := 0) hx hb dX2_multiplyAt_18 (by decide) ?_
      refine lv_istore (lv' := [(7, .int 0), (0, .ref (q 15)), (1, .int v1), (2, .ref (q (26 + r2))), (3, .ref (q (26 + r3))), (4, .long v4), (6, .int v6)]) hx hb dX2_multiplyAt_19 hl (by decide) rfl (fun ls hl => ?_)
      exact w_X2_multiplyAt_L21 F hA hr2 hr3 (fun w0 w1 w2 w3 w4 w5 w6 z h hE H locs ls hw hl => ih w0 w1 w2 w3 w4 w5 w6 z h hE H locs ls hw hl) FU _ _ _ _ _ _ _ _ z h hE H locs ls hw (lv_sub hl [1, 2, 3, 4, 5, 6, 0] rfl)
def f_X2_multiplyAt (ze : Int32) (aF : Nat → Int32) (ztc : Int32) (aTs : Nat → Int32) (aTn : Nat → Int32) (zoc : Int32) (aOs : Nat → Int32) (aOn : Nat → Int32) (M : Nat → Nat → Int64) (v1 : Int32) (r2 : Nat) (r3 : Nat) : Option (Int32 × Int32 × (Nat → Int32) × (Nat → Int32) × Int32 × (Nat → Nat → Int64)) :=
  f_X2_multiplyAt_L6 ze aF aOs aOn v1 r2 r3 FU ztc aTs aTn zoc M 0 0
set_option maxHeartbeats 4000000 in
set_option maxRecDepth 100000 in
theorem k_X2_multiplyAt {l : Launch} {G : GG} {q : Nat → Nat} {fr : va_W}  {zp : Int32} {ze : Int32} {zf : Int32} {zg : Int32} {zn : Int32} {aG : Nat → Int32} {aW : Nat → Int32} {aR : Nat → Int32} {aN : Nat → Int32} {aF : Nat → Int32} {lC : Nat → Int64} {lS : Nat → Int64} {lP : Nat → Int64} {lX : Nat → Int64} {ztc : Int32} {aTs : Nat → Int32} {aTn : Nat → Int32} {zoc : Int32} {aOs : Nat → Int32} {aOn : Nat → Int32} {aTp : Nat → Int32} {zln : Int32} {zpl : Int32} {zfa : Int32} {aSz : Nat → Int32} {zit : Int32} {zip : Int32} {zic : Int32} {zig : Int32} {M : Nat → Nat → Int64} {v1 : Int32} {r2 : Nat} {r3 : Nat} {z : Int32 × Int32 × (Nat → Int32) × (Nat → Int32) × Int32 × (Nat → Nat → Int64)} (hr2 : r2 < 32) (hr3 : r3 < 32) (h : f_X2_multiplyAt ze aF ztc aTs aTn zoc aOs aOn M v1 r2 r3 = some z) : Ct l G yX2_multiplyAt cX2_multiplyAt 15 (some .boolean) 1 25 [.ref (q 15), .int v1, .ref (q (26 + r2)), .ref (q (26 + r3))] (kW G q zp ze zf zg zn aG aW aR aN aF lC lS lP lX ++ (oW G q ztc aTs aTn zoc aOs aOn aTp zln zpl zfa aSz zit zip zic zig M ++ fr)) (some (.int z.1)) (kW G q zp ze zf zg zn aG aW aR aN aF lC lS lP lX ++ (oW G q z.2.1 z.2.2.1 z.2.2.2.1 z.2.2.2.2.1 aOs aOn aTp zln zpl zfa aSz zit zip zic zig z.2.2.2.2.2 ++ fr)) := by
  refine Ct.of (by decide +kernel) (Nat.le_of_ble_eq_true rfl) trivial ?_
  intro p e s m args below meth c Q A ls F hw hA hE hl
  have hx := F.x
  have hb := F.b
  unfold f_X2_multiplyAt at h
  obtain ⟨H, hH⟩ : ∃ H, H = s.heap := ⟨_, rfl⟩
  obtain ⟨locs, hlo⟩ : ∃ locs : List Loc, locs = [] := ⟨_, rfl⟩
  rw [← hH, ← hlo] at hw ⊢
  have hl : lv_has ls 15 [(0, .ref (q 15)), (1, .int v1), (2, .ref (q (26 + r2))), (3, .ref (q (26 + r3)))] := hl
  refine lv_lconst (v := 0) hx hb dX2_multiplyAt_0 (by decide) ?_
  refine lv_lstore (lv' := [(4, .long 0), (0, .ref (q 15)), (1, .int v1), (2, .ref (q (26 + r2))), (3, .ref (q (26 + r3)))]) hx hb dX2_multiplyAt_1 hl (by decide) rfl (fun ls hl => ?_)
  refine lv_iconst (v := 0) hx hb dX2_multiplyAt_3 (by decide) ?_
  refine lv_istore (lv' := [(6, .int 0), (4, .long 0), (0, .ref (q 15)), (1, .int v1), (2, .ref (q (26 + r2))), (3, .ref (q (26 + r3)))]) hx hb dX2_multiplyAt_4 hl (by decide) rfl (fun ls hl => ?_)
  exact w_X2_multiplyAt_L6 F hA hr2 hr3 FU _ _ _ _ _ _ _ z h hE H locs ls hw (lv_sub hl [2, 3, 4, 5, 1, 0] rfl)
end
theorem dX2_multiply_0 : decode cX2_multiply 0 = .ok (.iconst 0, 1) := by decide +kernel
theorem dX2_multiply_1 : decode cX2_multiply 1 = .ok (.istore 4, 2) := by decide +kernel
theorem dX2_multiply_3 : decode cX2_multiply 3 = .ok (.iload 4, 2) := by decide +kernel
theorem dX2_multiply_5 : decode cX2_multiply 5 = .ok (.aload_n 0, 1) := by decide +kernel
theorem dX2_multiply_6 : decode cX2_multiply 6 = .ok (.getfield 21, 3) := by decide +kernel
theorem dX2_multiply_9 : decode cX2_multiply 9 = .ok (.getfield 29, 3) := by decide +kernel
theorem dX2_multiply_12 : decode cX2_multiply 12 = .ok (.if_icmp .ge 22, 3) := by decide +kernel
theorem dX2_multiply_15 : decode cX2_multiply 15 = .ok (.aload_n 0, 1) := by decide +kernel
theorem dX2_multiply_16 : decode cX2_multiply 16 = .ok (.iload 4, 2) := by decide +kernel
theorem dX2_multiply_18 : decode cX2_multiply 18 = .ok (.aload_n 1, 1) := by decide +kernel
theorem dX2_multiply_19 : decode cX2_multiply 19 = .ok (.aload_n 2, 1) := by decide +kernel
theorem dX2_multiply_20 : decode cX2_multiply 20 = .ok (.invokevirtual 52, 3) := by decide +kernel
theorem dX2_multiply_23 : decode cX2_multiply 23 = .ok (.ifCond .ne 5, 3) := by decide +kernel
theorem dX2_multiply_26 : decode cX2_multiply 26 = .ok (.iconst 0, 1) := by decide +kernel
theorem dX2_multiply_27 : decode cX2_multiply 27 = .ok (.ireturn, 1) := by decide +kernel
theorem dX2_multiply_28 : decode cX2_multiply 28 = .ok (.iinc 4 1, 3) := by decide +kernel
theorem dX2_multiply_31 : decode cX2_multiply 31 = .ok (.goto (-28), 3) := by decide +kernel
theorem dX2_multiply_34 : decode cX2_multiply 34 = .ok (.aload_n 0, 1) := by decide +kernel
theorem dX2_multiply_35 : decode cX2_multiply 35 = .ok (.getfield 9, 3) := by decide +kernel
theorem dX2_multiply_38 : decode cX2_multiply 38 = .ok (.aload_n 3, 1) := by decide +kernel
theorem dX2_multiply_39 : decode cX2_multiply 39 = .ok (.invokestatic 45, 3) := by decide +kernel
theorem dX2_multiply_42 : decode cX2_multiply 42 = .ok (.iconst 1, 1) := by decide +kernel
theorem dX2_multiply_43 : decode cX2_multiply 43 = .ok (.ireturn, 1) := by decide +kernel
section
variable {p : Program} {l : Launch} {e : Env} {s : State} {m : MethodId} {args : Array Value} {below : List Frame} {meth : Method} {c : Code} {Q : State → Prop} {G : GG} {A : Nat → Prop} {q : Nat → Nat} {fr : va_W}
def f_X2_multiply_L3 (ze : Int32) (aF : Nat → Int32) (aOs : Nat → Int32) (aOn : Nat → Int32) (r1 : Nat) (r2 : Nat) (r3 : Nat) : Nat → Int32 → (Nat → Int32) → (Nat → Int32) → Int32 → (Nat → Nat → Int64) → Int32 → Option (Int32 × Int32 × (Nat → Int32) × (Nat → Int32) × Int32 × (Nat → Nat → Int64))
  | 0, _, _, _, _, _, _ => none
  | fu + 1, ztc, aTs, aTn, zoc, M, v4 =>
    if ze ≤ v4 then
    (f_X4_copyRow M 29 r3).bind fun z2 =>
    some (1, ztc, aTs, aTn, zoc, z2)
    else
    (f_X2_multiplyAt ze aF ztc aTs aTn zoc aOs aOn M v4 r1 r2).bind fun z3 =>
    if z3.1 = 0 then
    some (0, z3.2.1, z3.2.2.1, z3.2.2.2.1, z3.2.2.2.2.1, z3.2.2.2.2.2)
    else
    f_X2_multiply_L3 ze aF aOs aOn r1 r2 r3 fu z3.2.1 z3.2.2.1 z3.2.2.2.1 z3.2.2.2.2.1 z3.2.2.2.2.2 (v4 + 1)
set_option maxHeartbeats 4000000 in
set_option maxRecDepth 100000 in
theorem w_X2_multiply_L3  {zp : Int32} {ze : Int32} {zf : Int32} {zg : Int32} {zn : Int32} {aG : Nat → Int32} {aW : Nat → Int32} {aR : Nat → Int32} {aN : Nat → Int32} {aF : Nat → Int32} {lC : Nat → Int64} {lS : Nat → Int64} {lP : Nat → Int64} {lX : Nat → Int64} {aOs : Nat → Int32} {aOn : Nat → Int32} {aTp : Nat → Int32} {zln : Int32} {zpl : Int32} {zfa : Int32} {aSz : Nat → Int32} {zit : Int32} {zip : Int32} {zic : Int32} {zig : Int32} {r1 : Nat} {r2 : Nat} {r3 : Nat}  (F : Fx p s m args meth c cX2_multiply 5 RX2 (some .boolean)) (hA : ∀ q, s.heap.size ≤ q → A q) (hr1 : r1 < 32) (hr2 : r2 < 32) (hr3 : r3 < 32)  : ∀ (fu : Nat) (ztc : Int32) (aTs : Nat → Int32) (aTn : Nat → Int32) (zoc : Int32) (M : Nat → Nat → Int64) (v4 : Int32) (z : Int32 × Int32 × (Nat → Int32) × (Nat → Int32) × Int32 × (Nat → Nat → Int64)), f_X2_multiply_L3 ze aF aOs aOn r1 r2 r3 fu ztc aTs aTn zoc M v4 = some z → Ends p l e (rmOf 2 59) s m args below meth c Q cX2_multiply G A (some .boolean) (some (.int z.1)) (kW G q zp ze zf zg zn aG aW aR aN aF lC lS lP lX ++ (oW G q z.2.1 z.2.2.1 z.2.2.2.1 z.2.2.2.2.1 aOs aOn aTp zln zpl zfa aSz zit zip zic zig z.2.2.2.2.2 ++ fr)) → ∀ (H : Heap) (locs : List Loc) (ls : Array Slot), Wd G s A (kW G q zp ze zf zg zn aG aW aR aN aF lC lS lP lX ++ (oW G q ztc aTs aTn zoc aOs aOn aTp zln zpl zfa aSz zit zip zic zig M ++ fr)) H locs → lv_has ls 5 [(0, .ref (q 15)), (1, .ref (q (26 + r1))), (2, .ref (q (26 + r2))), (3, .ref (q (26 + r3))), (4, .int v4)] → W p l e (rmOf 2 59) s m args below meth c H locs 0 0 Q (F0 m 3 ls []) := by
  have hx := F.x
  have hb := F.b
  intro fu
  induction fu with
  | zero =>
    intro ztc aTs aTn zoc M v4 z h
    cases (h : none = some z)
  | succ fu ih =>
    intro ztc aTs aTn zoc M v4 z h hE H locs ls hw hl
    rw [f_X2_multiply_L3] at h
    refine lv_iload hx hb dX2_multiply_3 (lv_at hl 4 rfl) ?_
    refine lv_aload_n hx hb dX2_multiply_5 rfl (lv_at hl 0 rfl) ?_
    refine gf_2_21 F hw dX2_multiply_6 ?_
    refine gf_2_29 F hw dX2_multiply_9 ?_
    refine lv_icmp_ge (tgt := 34) hx hb dX2_multiply_12 (by decide) (fun c1 => ?_) (fun c1 => ?_)
    · replace h := stT c1 h
      refine lv_aload_n hx hb dX2_multiply_34 rfl (lv_at hl 0 rfl) ?_
      refine gf_2_9 F hw dX2_multiply_35 ?_
      refine lv_aload_n hx hb dX2_multiply_38 rfl (lv_at hl 3 rfl) ?_
      obtain ⟨z2, hz2, h⟩ := stB h
      refine ctSN (av := [.ref (q (26 + 29)), .ref (q (26 + r3))]) (st0 := ([] : List Value)) (st1 := ([] : List Value)) (host := RX4) F hw hA (k_X4_copyRow (by decide) hr3 hz2) (by decide +kernel) kn_X4_copyRow ki_4 ks_X4_copyRow kd_X4_copyRow rfl ⟨by decide, by decide⟩ hl.1 rfl (Nat.le_of_ble_eq_true rfl) dX2_multiply_39 rfl (fun H locs hw => ?_)
      refine lv_iconst (v := 1) hx hb dX2_multiply_42 (by decide) ?_
      obtain rfl := Option.some.inj h
      exact hE H locs _ ls hw (Or.inr rfl) dX2_multiply_43
    · replace h := stF c1 h
      refine lv_aload_n hx hb dX2_multiply_15 rfl (lv_at hl 0 rfl) ?_
      refine lv_iload hx hb dX2_multiply_16 (lv_at hl 4 rfl) ?_
      refine lv_aload_n hx hb dX2_multiply_18 rfl (lv_at hl 1 rfl) ?_
      refine lv_aload_n hx hb dX2_multiply_19 rfl (lv_at hl 2 rfl) ?_
      obtain ⟨z3, hz3, h⟩ := stB h
      refine ctV (av := [.int v4, .ref (q (26 + r1)), .ref (q (26 + r2))]) (st0 := ([] : List Value)) (st1 := ([.int z3.1] : List Value)) F hw hA (k_X2_multiplyAt hr1 hr2 hz3) kl_2_52 kd_X2_multiplyAt rfl ⟨by decide, by decide⟩ 15 rfl rfl hl.1 rfl (Nat.le_of_ble_eq_true rfl) dX2_multiply_20 rfl (fun H locs hw => ?_)
      refine lv_if_ne (tgt := 28) hx hb dX2_multiply_23 (by decide) (fun c4 => ?_) (fun c4 => ?_)
      · replace h := stF c4 h
        refine lv_iinc (v := (v4 + 1)) (lv' := [(4, .int (v4 + 1)), (0, .ref (q 15)), (1, .ref (q (26 + r1))), (2, .ref (q (26 + r2))), (3, .ref (q (26 + r3)))]) hx hb dX2_multiply_28 hl (k := 4) rfl rfl (by decide) rfl (fun ls hl => ?_)
        refine lv_goto (tgt := 3) hx hb dX2_multiply_31 (by decide) ?_
        exact ih _ _ _ _ _ _ z h hE H locs ls hw (lv_sub hl [1, 2, 3, 4, 0] rfl)
      · replace h := stT c4 h
        refine lv_iconst (v := 0) hx hb dX2_multiply_26 (by decide) ?_
        obtain rfl := Option.some.inj h
        exact hE H locs _ ls hw (Or.inl rfl) dX2_multiply_27
def f_X2_multiply (ze : Int32) (aF : Nat → Int32) (ztc : Int32) (aTs : Nat → Int32) (aTn : Nat → Int32) (zoc : Int32) (aOs : Nat → Int32) (aOn : Nat → Int32) (M : Nat → Nat → Int64) (r1 : Nat) (r2 : Nat) (r3 : Nat) : Option (Int32 × Int32 × (Nat → Int32) × (Nat → Int32) × Int32 × (Nat → Nat → Int64)) :=
  f_X2_multiply_L3 ze aF aOs aOn r1 r2 r3 FU ztc aTs aTn zoc M 0
set_option maxHeartbeats 4000000 in
set_option maxRecDepth 100000 in
theorem k_X2_multiply {l : Launch} {G : GG} {q : Nat → Nat} {fr : va_W}  {zp : Int32} {ze : Int32} {zf : Int32} {zg : Int32} {zn : Int32} {aG : Nat → Int32} {aW : Nat → Int32} {aR : Nat → Int32} {aN : Nat → Int32} {aF : Nat → Int32} {lC : Nat → Int64} {lS : Nat → Int64} {lP : Nat → Int64} {lX : Nat → Int64} {ztc : Int32} {aTs : Nat → Int32} {aTn : Nat → Int32} {zoc : Int32} {aOs : Nat → Int32} {aOn : Nat → Int32} {aTp : Nat → Int32} {zln : Int32} {zpl : Int32} {zfa : Int32} {aSz : Nat → Int32} {zit : Int32} {zip : Int32} {zic : Int32} {zig : Int32} {M : Nat → Nat → Int64} {r1 : Nat} {r2 : Nat} {r3 : Nat} {z : Int32 × Int32 × (Nat → Int32) × (Nat → Int32) × Int32 × (Nat → Nat → Int64)} (hr1 : r1 < 32) (hr2 : r2 < 32) (hr3 : r3 < 32) (h : f_X2_multiply ze aF ztc aTs aTn zoc aOs aOn M r1 r2 r3 = some z) : Ct l G yX2_multiply cX2_multiply 5 (some .boolean) 2 59 [.ref (q 15), .ref (q (26 + r1)), .ref (q (26 + r2)), .ref (q (26 + r3))] (kW G q zp ze zf zg zn aG aW aR aN aF lC lS lP lX ++ (oW G q ztc aTs aTn zoc aOs aOn aTp zln zpl zfa aSz zit zip zic zig M ++ fr)) (some (.int z.1)) (kW G q zp ze zf zg zn aG aW aR aN aF lC lS lP lX ++ (oW G q z.2.1 z.2.2.1 z.2.2.2.1 z.2.2.2.2.1 aOs aOn aTp zln zpl zfa aSz zit zip zic zig z.2.2.2.2.2 ++ fr)) := by
  refine Ct.of (by decide +kernel) (Nat.le_of_ble_eq_true rfl) trivial ?_
  intro p e s m args below meth c Q A ls F hw hA hE hl
  have hx := F.x
  have hb := F.b
  unfold f_X2_multiply at h
  obtain ⟨H, hH⟩ : ∃ H, H = s.heap := ⟨_, rfl⟩
  obtain ⟨locs, hlo⟩ : ∃ locs : List Loc, locs = [] := ⟨_, rfl⟩
  rw [← hH, ← hlo] at hw ⊢
  have hl : lv_has ls 5 [(0, .ref (q 15)), (1, .ref (q (26 + r1))), (2, .ref (q (26 + r2))), (3, .ref (q (26 + r3)))] := hl
  refine lv_iconst (v := 0) hx hb dX2_multiply_0 (by decide) ?_
  refine lv_istore (lv' := [(4, .int 0), (0, .ref (q 15)), (1, .ref (q (26 + r1))), (2, .ref (q (26 + r2))), (3, .ref (q (26 + r3)))]) hx hb dX2_multiply_1 hl (by decide) rfl (fun ls hl => ?_)
  exact w_X2_multiply_L3 F hA hr1 hr2 hr3 FU _ _ _ _ _ _ z h hE H locs ls hw (lv_sub hl [1, 2, 3, 4, 0] rfl)
end
theorem dX2_grow_0 : decode cX2_grow 0 = .ok (.aload_n 0, 1) := by decide +kernel
theorem dX2_grow_1 : decode cX2_grow 1 = .ok (.getfield 25, 3) := by decide +kernel
theorem dX2_grow_4 : decode cX2_grow 4 = .ok (.iconst 5, 1) := by decide +kernel
theorem dX2_grow_5 : decode cX2_grow 5 = .ok (.iload_n 2, 1) := by decide +kernel
theorem dX2_grow_6 : decode cX2_grow 6 = .ok (.invokevirtual 75, 3) := by decide +kernel
theorem dX2_grow_9 : decode cX2_grow 9 = .ok (.aload_n 0, 1) := by decide +kernel
theorem dX2_grow_10 : decode cX2_grow 10 = .ok (.aload_n 0, 1) := by decide +kernel
theorem dX2_grow_11 : decode cX2_grow 11 = .ok (.getfield 15, 3) := by decide +kernel
theorem dX2_grow_14 : decode cX2_grow 14 = .ok (.aload_n 1, 1) := by decide +kernel
theorem dX2_grow_15 : decode cX2_grow 15 = .ok (.aload_n 0, 1) := by decide +kernel
theorem dX2_grow_16 : decode cX2_grow 16 = .ok (.getfield 15, 3) := by decide +kernel
theorem dX2_grow_19 : decode cX2_grow 19 = .ok (.invokevirtual 79, 3) := by decide +kernel
theorem dX2_grow_22 : decode cX2_grow 22 = .ok (.ifCond .ne 5, 3) := by decide +kernel
theorem dX2_grow_25 : decode cX2_grow 25 = .ok (.iconst 0, 1) := by decide +kernel
theorem dX2_grow_26 : decode cX2_grow 26 = .ok (.ireturn, 1) := by decide +kernel
theorem dX2_grow_27 : decode cX2_grow 27 = .ok (.aload_n 0, 1) := by decide +kernel
theorem dX2_grow_28 : decode cX2_grow 28 = .ok (.getfield 25, 3) := by decide +kernel
theorem dX2_grow_31 : decode cX2_grow 31 = .ok (.invokevirtual 83, 3) := by decide +kernel
theorem dX2_grow_34 : decode cX2_grow 34 = .ok (.iconst 1, 1) := by decide +kernel
theorem dX2_grow_35 : decode cX2_grow 35 = .ok (.ireturn, 1) := by decide +kernel
section
variable {p : Program} {l : Launch} {e : Env} {s : State} {m : MethodId} {args : Array Value} {below : List Frame} {meth : Method} {c : Code} {Q : State → Prop} {G : GG} {A : Nat → Prop} {q : Nat → Nat} {fr : va_W}
def f_X2_grow (ze : Int32) (aF : Nat → Int32) (ztc : Int32) (aTs : Nat → Int32) (aTn : Nat → Int32) (zoc : Int32) (aOs : Nat → Int32) (aOn : Nat → Int32) (M : Nat → Nat → Int64) (r1 : Nat) (v2 : Int32) : Option (Int32 × Int32 × (Nat → Int32) × (Nat → Int32) × Int32 × (Nat → Int32) × (Nat → Int32) × (Nat → Nat → Int64)) :=
  (f_X3_enter zoc aOs aOn 5 v2).bind fun z1 =>
  (f_X2_multiply ze aF ztc aTs aTn z1.1 z1.2.1 z1.2.2 M 30 r1 30).bind fun z2 =>
  if z2.1 = 0 then
  some (0, z2.2.1, z2.2.2.1, z2.2.2.2.1, z2.2.2.2.2.1, z1.2.1, z1.2.2, z2.2.2.2.2.2)
  else
  (f_X3_leave z2.2.2.2.2.1).bind fun z4 =>
  some (1, z2.2.1, z2.2.2.1, z2.2.2.2.1, z4, z1.2.1, z1.2.2, z2.2.2.2.2.2)
set_option maxHeartbeats 4000000 in
set_option maxRecDepth 100000 in
theorem k_X2_grow {l : Launch} {G : GG} {q : Nat → Nat} {fr : va_W}  {zp : Int32} {ze : Int32} {zf : Int32} {zg : Int32} {zn : Int32} {aG : Nat → Int32} {aW : Nat → Int32} {aR : Nat → Int32} {aN : Nat → Int32} {aF : Nat → Int32} {lC : Nat → Int64} {lS : Nat → Int64} {lP : Nat → Int64} {lX : Nat → Int64} {ztc : Int32} {aTs : Nat → Int32} {aTn : Nat → Int32} {zoc : Int32} {aOs : Nat → Int32} {aOn : Nat → Int32} {aTp : Nat → Int32} {zln : Int32} {zpl : Int32} {zfa : Int32} {aSz : Nat → Int32} {zit : Int32} {zip : Int32} {zic : Int32} {zig : Int32} {M : Nat → Nat → Int64} {r1 : Nat} {v2 : Int32} {z : Int32 × Int32 × (Nat → Int32) × (Nat → Int32) × Int32 × (Nat → Int32) × (Nat → Int32) × (Nat → Nat → Int64)} (hr1 : r1 < 32) (h : f_X2_grow ze aF ztc aTs aTn zoc aOs aOn M r1 v2 = some z) : Ct l G yX2_grow cX2_grow 3 (some .boolean) 3 83 [.ref (q 15), .ref (q (26 + r1)), .int v2] (kW G q zp ze zf zg zn aG aW aR aN aF lC lS lP lX ++ (oW G q ztc aTs aTn zoc aOs aOn aTp zln zpl zfa aSz zit zip zic zig M ++ fr)) (some (.int z.1)) (kW G q zp ze zf zg zn aG aW aR aN aF lC lS lP lX ++ (oW G q z.2.1 z.2.2.1 z.2.2.2.1 z.2.2.2.2.1 z.2.2.2.2.2.1 z.2.2.2.2.2.2.1 aTp zln zpl zfa aSz zit zip zic zig z.2.2.2.2.2.2.2 ++ fr)) := by
  refine Ct.of (by decide +kernel) (Nat.le_of_ble_eq_true rfl) trivial ?_
  intro p e s m args below meth c Q A ls F hw hA hE hl
  have hx := F.x
  have hb := F.b
  unfold f_X2_grow at h
  obtain ⟨H, hH⟩ : ∃ H, H = s.heap := ⟨_, rfl⟩
  obtain ⟨locs, hlo⟩ : ∃ locs : List Loc, locs = [] := ⟨_, rfl⟩
  rw [← hH, ← hlo] at hw ⊢
  have hl : lv_has ls 3 [(0, .ref (q 15)), (1, .ref (q (26 + r1))), (2, .int v2)] := hl
  refine lv_aload_n hx hb dX2_grow_0 rfl (lv_at hl 0 rfl) ?_
  refine gf_2_25 F hw dX2_grow_1 ?_
  refine lv_iconst (v := 5) hx hb dX2_grow_4 (by decide) ?_
  refine lv_iload_n hx hb dX2_grow_5 rfl (lv_at hl 2 rfl) ?_
  obtain ⟨z1, hz1, h⟩ := stB h
  refine ctV (av := [.int 5, .int v2]) (st0 := ([] : List Value)) (st1 := ([] : List Value)) F hw hA (k_X3_enter hz1) kl_2_75 kd_X3_enter rfl ⟨by decide, by decide⟩ 10 rfl rfl hl.1 rfl (Nat.le_of_ble_eq_true rfl) dX2_grow_6 rfl (fun H locs hw => ?_)
  refine lv_aload_n hx hb dX2_grow_9 rfl (lv_at hl 0 rfl) ?_
  refine lv_aload_n hx hb dX2_grow_10 rfl (lv_at hl 0 rfl) ?_
  refine gf_2_15 F hw dX2_grow_11 ?_
  refine lv_aload_n hx hb dX2_grow_14 rfl (lv_at hl 1 rfl) ?_
  refine lv_aload_n hx hb dX2_grow_15 rfl (lv_at hl 0 rfl) ?_
  refine gf_2_15 F hw dX2_grow_16 ?_
  obtain ⟨z2, hz2, h⟩ := stB h
  refine ctV (av := [.ref (q (26 + 30)), .ref (q (26 + r1)), .ref (q (26 + 30))]) (st0 := ([] : List Value)) (st1 := ([.int z2.1] : List Value)) F hw hA (k_X2_multiply (by decide) hr1 (by decide) hz2) kl_2_79 kd_X2_multiply rfl ⟨by decide, by decide⟩ 15 rfl rfl hl.1 rfl (Nat.le_of_ble_eq_true rfl) dX2_grow_19 rfl (fun H locs hw => ?_)
  refine lv_if_ne (tgt := 27) hx hb dX2_grow_22 (by decide) (fun c3 => ?_) (fun c3 => ?_)
  · replace h := stF c3 h
    refine lv_aload_n hx hb dX2_grow_27 rfl (lv_at hl 0 rfl) ?_
    refine gf_2_25 F hw dX2_grow_28 ?_
    obtain ⟨z4, hz4, h⟩ := stB h
    refine ctV (av := []) (st0 := ([] : List Value)) (st1 := ([] : List Value)) F hw hA (k_X3_leave hz4) kl_2_83 kd_X3_leave rfl ⟨by decide, by decide⟩ 10 rfl rfl hl.1 rfl (Nat.le_of_ble_eq_true rfl) dX2_grow_31 rfl (fun H locs hw => ?_)
    refine lv_iconst (v := 1) hx hb dX2_grow_34 (by decide) ?_
    obtain rfl := Option.some.inj h
    exact hE H locs _ ls hw (Or.inr rfl) dX2_grow_35
  · replace h := stT c3 h
    refine lv_iconst (v := 0) hx hb dX2_grow_25 (by decide) ?_
    obtain rfl := Option.some.inj h
    exact hE H locs _ ls hw (Or.inl rfl) dX2_grow_26
end
theorem dX2_multiplyOften_0 : decode cX2_multiplyOften 0 = .ok (.aload_n 0, 1) := by decide +kernel
theorem dX2_multiplyOften_1 : decode cX2_multiplyOften 1 = .ok (.getfield 15, 3) := by decide +kernel
theorem dX2_multiplyOften_4 : decode cX2_multiplyOften 4 = .ok (.iconst 1, 1) := by decide +kernel
theorem dX2_multiplyOften_5 : decode cX2_multiplyOften 5 = .ok (.invokestatic 67, 3) := by decide +kernel
theorem dX2_multiplyOften_8 : decode cX2_multiplyOften 8 = .ok (.iconst 0, 1) := by decide +kernel
theorem dX2_multiplyOften_9 : decode cX2_multiplyOften 9 = .ok (.istore 4, 2) := by decide +kernel
theorem dX2_multiplyOften_11 : decode cX2_multiplyOften 11 = .ok (.iload 4, 2) := by decide +kernel
theorem dX2_multiplyOften_13 : decode cX2_multiplyOften 13 = .ok (.iload_n 2, 1) := by decide +kernel
theorem dX2_multiplyOften_14 : decode cX2_multiplyOften 14 = .ok (.if_icmp .ge 21, 3) := by decide +kernel
theorem dX2_multiplyOften_17 : decode cX2_multiplyOften 17 = .ok (.aload_n 0, 1) := by decide +kernel
theorem dX2_multiplyOften_18 : decode cX2_multiplyOften 18 = .ok (.aload_n 1, 1) := by decide +kernel
theorem dX2_multiplyOften_19 : decode cX2_multiplyOften 19 = .ok (.iload 4, 2) := by decide +kernel
theorem dX2_multiplyOften_21 : decode cX2_multiplyOften 21 = .ok (.invokevirtual 71, 3) := by decide +kernel
theorem dX2_multiplyOften_24 : decode cX2_multiplyOften 24 = .ok (.ifCond .ne 5, 3) := by decide +kernel
theorem dX2_multiplyOften_27 : decode cX2_multiplyOften 27 = .ok (.iconst 0, 1) := by decide +kernel
theorem dX2_multiplyOften_28 : decode cX2_multiplyOften 28 = .ok (.ireturn, 1) := by decide +kernel
theorem dX2_multiplyOften_29 : decode cX2_multiplyOften 29 = .ok (.iinc 4 1, 3) := by decide +kernel
theorem dX2_multiplyOften_32 : decode cX2_multiplyOften 32 = .ok (.goto (-21), 3) := by decide +kernel
theorem dX2_multiplyOften_35 : decode cX2_multiplyOften 35 = .ok (.aload_n 0, 1) := by decide +kernel
theorem dX2_multiplyOften_36 : decode cX2_multiplyOften 36 = .ok (.getfield 15, 3) := by decide +kernel
theorem dX2_multiplyOften_39 : decode cX2_multiplyOften 39 = .ok (.aload_n 3, 1) := by decide +kernel
theorem dX2_multiplyOften_40 : decode cX2_multiplyOften 40 = .ok (.invokestatic 45, 3) := by decide +kernel
theorem dX2_multiplyOften_43 : decode cX2_multiplyOften 43 = .ok (.iconst 1, 1) := by decide +kernel
theorem dX2_multiplyOften_44 : decode cX2_multiplyOften 44 = .ok (.ireturn, 1) := by decide +kernel
section
variable {p : Program} {l : Launch} {e : Env} {s : State} {m : MethodId} {args : Array Value} {below : List Frame} {meth : Method} {c : Code} {Q : State → Prop} {G : GG} {A : Nat → Prop} {q : Nat → Nat} {fr : va_W}
def f_X2_multiplyOften_L11 (ze : Int32) (aF : Nat → Int32) (r1 : Nat) (v2 : Int32) (r3 : Nat) : Nat → Int32 → (Nat → Int32) → (Nat → Int32) → Int32 → (Nat → Int32) → (Nat → Int32) → (Nat → Nat → Int64) → Int32 → Option (Int32 × Int32 × (Nat → Int32) × (Nat → Int32) × Int32 × (Nat → Int32) × (Nat → Int32) × (Nat → Nat → Int64))
  | 0, _, _, _, _, _, _, _, _ => none
  | fu + 1, ztc, aTs, aTn, zoc, aOs, aOn, M, v4 =>
    if v2 ≤ v4 then
    (f_X4_copyRow M 30 r3).bind fun z2 =>
    some (1, ztc, aTs, aTn, zoc, aOs, aOn, z2)
    else
    (f_X2_grow ze aF ztc aTs aTn zoc aOs aOn M r1 v4).bind fun z3 =>
    if z3.1 = 0 then
    some (0, z3.2.1, z3.2.2.1, z3.2.2.2.1, z3.2.2.2.2.1, z3.2.2.2.2.2.1, z3.2.2.2.2.2.2.1, z3.2.2.2.2.2.2.2)
    else
    f_X2_multiplyOften_L11 ze aF r1 v2 r3 fu z3.2.1 z3.2.2.1 z3.2.2.2.1 z3.2.2.2.2.1 z3.2.2.2.2.2.1 z3.2.2.2.2.2.2.1 z3.2.2.2.2.2.2.2 (v4 + 1)
set_option maxHeartbeats 4000000 in
set_option maxRecDepth 100000 in
theorem w_X2_multiplyOften_L11  {zp : Int32} {ze : Int32} {zf : Int32} {zg : Int32} {zn : Int32} {aG : Nat → Int32} {aW : Nat → Int32} {aR : Nat → Int32} {aN : Nat → Int32} {aF : Nat → Int32} {lC : Nat → Int64} {lS : Nat → Int64} {lP : Nat → Int64} {lX : Nat → Int64} {aTp : Nat → Int32} {zln : Int32} {zpl : Int32} {zfa : Int32} {aSz : Nat → Int32} {zit : Int32} {zip : Int32} {zic : Int32} {zig : Int32} {r1 : Nat} {v2 : Int32} {r3 : Nat}  (F : Fx p s m args meth c cX2_multiplyOften 5 RX2 (some .boolean)) (hA : ∀ q, s.heap.size ≤ q → A q) (hr1 : r1 < 32) (hr3 : r3 < 32)  : ∀ (fu : Nat) (ztc : Int32) (aTs : Nat → Int32) (aTn : Nat → Int32) (zoc : Int32) (aOs : Nat → Int32) (aOn : Nat → Int32) (M : Nat → Nat → Int64) (v4 : Int32) (z : Int32 × Int32 × (Nat → Int32) × (Nat → Int32) × Int32 × (Nat → Int32) × (Nat → Int32) × (Nat → Nat → Int64)), f_X2_multiplyOften_L11 ze aF r1 v2 r3 fu ztc aTs aTn zoc aOs aOn M v4 = some z → Ends p l e (rmOf 4 105) s m args below meth c Q cX2_multiplyOften G A (some .boolean) (some (.int z.1)) (kW G q zp ze zf zg zn aG aW aR aN aF lC lS lP lX ++ (oW G q z.2.1 z.2.2.1 z.2.2.2.1 z.2.2.2.2.1 z.2.2.2.2.2.1 z.2.2.2.2.2.2.1 aTp zln zpl zfa aSz zit zip zic zig z.2.2.2.2.2.2.2 ++ fr)) → ∀ (H : Heap) (locs : List Loc) (ls : Array Slot), Wd G s A (kW G q zp ze zf zg zn aG aW aR aN aF lC lS lP lX ++ (oW G q ztc aTs aTn zoc aOs aOn aTp zln zpl zfa aSz zit zip zic zig M ++ fr)) H locs → lv_has ls 5 [(0, .ref (q 15)), (1, .ref (q (26 + r1))), (2, .int v2), (3, .ref (q (26 + r3))), (4, .int v4)] → W p l e (rmOf 4 105) s m args below meth c H locs 0 0 Q (F0 m 11 ls []) := by
  have hx := F.x
  have hb := F.b
  intro fu
  induction fu with
  | zero =>
    intro ztc aTs aTn zoc aOs aOn M v4 z h
    cases (h : none = some z)
  | succ fu ih =>
    intro ztc aTs aTn zoc aOs aOn M v4 z h hE H locs ls hw hl
    rw [f_X2_multiplyOften_L11] at h
    refine lv_iload hx hb dX2_multiplyOften_11 (lv_at hl 4 rfl) ?_
    refine lv_iload_n hx hb dX2_multiplyOften_13 rfl (lv_at hl 2 rfl) ?_
    refine lv_icmp_ge (tgt := 35) hx hb dX2_multiplyOften_14 (by decide) (fun c1 => ?_) (fun c1 => ?_)
    · replace h := stT c1 h
      refine lv_aload_n hx hb dX2_multiplyOften_35 rfl (lv_at hl 0 rfl) ?_
      refine gf_2_15 F hw dX2_multiplyOften_36 ?_
      refine lv_aload_n hx hb dX2_multiplyOften_39 rfl (lv_at hl 3 rfl) ?_
      obtain ⟨z2, hz2, h⟩ := stB h
      refine ctSN (av := [.ref (q (26 + 30)), .ref (q (26 + r3))]) (st0 := ([] : List Value)) (st1 := ([] : List Value)) (host := RX4) F hw hA (k_X4_copyRow (by decide) hr3 hz2) (by decide +kernel) kn_X4_copyRow ki_4 ks_X4_copyRow kd_X4_copyRow rfl ⟨by decide, by decide⟩ hl.1 rfl (Nat.le_of_ble_eq_true rfl) dX2_multiplyOften_40 rfl (fun H locs hw => ?_)
      refine lv_iconst (v := 1) hx hb dX2_multiplyOften_43 (by decide) ?_
      obtain rfl := Option.some.inj h
      exact hE H locs _ ls hw (Or.inr rfl) dX2_multiplyOften_44
    · replace h := stF c1 h
      refine lv_aload_n hx hb dX2_multiplyOften_17 rfl (lv_at hl 0 rfl) ?_
      refine lv_aload_n hx hb dX2_multiplyOften_18 rfl (lv_at hl 1 rfl) ?_
      refine lv_iload hx hb dX2_multiplyOften_19 (lv_at hl 4 rfl) ?_
      obtain ⟨z3, hz3, h⟩ := stB h
      refine ctV (av := [.ref (q (26 + r1)), .int v4]) (st0 := ([] : List Value)) (st1 := ([.int z3.1] : List Value)) F hw hA (k_X2_grow hr1 hz3) kl_2_71 kd_X2_grow rfl ⟨by decide, by decide⟩ 15 rfl rfl hl.1 rfl (Nat.le_of_ble_eq_true rfl) dX2_multiplyOften_21 rfl (fun H locs hw => ?_)
      refine lv_if_ne (tgt := 29) hx hb dX2_multiplyOften_24 (by decide) (fun c4 => ?_) (fun c4 => ?_)
      · replace h := stF c4 h
        refine lv_iinc (v := (v4 + 1)) (lv' := [(4, .int (v4 + 1)), (0, .ref (q 15)), (1, .ref (q (26 + r1))), (2, .int v2), (3, .ref (q (26 + r3)))]) hx hb dX2_multiplyOften_29 hl (k := 4) rfl rfl (by decide) rfl (fun ls hl => ?_)
        refine lv_goto (tgt := 11) hx hb dX2_multiplyOften_32 (by decide) ?_
        exact ih _ _ _ _ _ _ _ _ z h hE H locs ls hw (lv_sub hl [1, 2, 3, 4, 0] rfl)
      · replace h := stT c4 h
        refine lv_iconst (v := 0) hx hb dX2_multiplyOften_27 (by decide) ?_
        obtain rfl := Option.some.inj h
        exact hE H locs _ ls hw (Or.inl rfl) dX2_multiplyOften_28
def f_X2_multiplyOften (ze : Int32) (aF : Nat → Int32) (ztc : Int32) (aTs : Nat → Int32) (aTn : Nat → Int32) (zoc : Int32) (aOs : Nat → Int32) (aOn : Nat → Int32) (M : Nat → Nat → Int64) (r1 : Nat) (v2 : Int32) (r3 : Nat) : Option (Int32 × Int32 × (Nat → Int32) × (Nat → Int32) × Int32 × (Nat → Int32) × (Nat → Int32) × (Nat → Nat → Int64)) :=
  (f_X4_setWhole M 30 1).bind fun z1 =>
  f_X2_multiplyOften_L11 ze aF r1 v2 r3 FU ztc aTs aTn zoc aOs aOn z1 0
set_option maxHeartbeats 4000000 in
set_option maxRecDepth 100000 in
theorem k_X2_multiplyOften {l : Launch} {G : GG} {q : Nat → Nat} {fr : va_W}  {zp : Int32} {ze : Int32} {zf : Int32} {zg : Int32} {zn : Int32} {aG : Nat → Int32} {aW : Nat → Int32} {aR : Nat → Int32} {aN : Nat → Int32} {aF : Nat → Int32} {lC : Nat → Int64} {lS : Nat → Int64} {lP : Nat → Int64} {lX : Nat → Int64} {ztc : Int32} {aTs : Nat → Int32} {aTn : Nat → Int32} {zoc : Int32} {aOs : Nat → Int32} {aOn : Nat → Int32} {aTp : Nat → Int32} {zln : Int32} {zpl : Int32} {zfa : Int32} {aSz : Nat → Int32} {zit : Int32} {zip : Int32} {zic : Int32} {zig : Int32} {M : Nat → Nat → Int64} {r1 : Nat} {v2 : Int32} {r3 : Nat} {z : Int32 × Int32 × (Nat → Int32) × (Nat → Int32) × Int32 × (Nat → Int32) × (Nat → Int32) × (Nat → Nat → Int64)} (hr1 : r1 < 32) (hr3 : r3 < 32) (h : f_X2_multiplyOften ze aF ztc aTs aTn zoc aOs aOn M r1 v2 r3 = some z) : Ct l G yX2_multiplyOften cX2_multiplyOften 5 (some .boolean) 4 105 [.ref (q 15), .ref (q (26 + r1)), .int v2, .ref (q (26 + r3))] (kW G q zp ze zf zg zn aG aW aR aN aF lC lS lP lX ++ (oW G q ztc aTs aTn zoc aOs aOn aTp zln zpl zfa aSz zit zip zic zig M ++ fr)) (some (.int z.1)) (kW G q zp ze zf zg zn aG aW aR aN aF lC lS lP lX ++ (oW G q z.2.1 z.2.2.1 z.2.2.2.1 z.2.2.2.2.1 z.2.2.2.2.2.1 z.2.2.2.2.2.2.1 aTp zln zpl zfa aSz zit zip zic zig z.2.2.2.2.2.2.2 ++ fr)) := by
  refine Ct.of (by decide +kernel) (Nat.le_of_ble_eq_true rfl) trivial ?_
  intro p e s m args below meth c Q A ls F hw hA hE hl
  have hx := F.x
  have hb := F.b
  unfold f_X2_multiplyOften at h
  obtain ⟨H, hH⟩ : ∃ H, H = s.heap := ⟨_, rfl⟩
  obtain ⟨locs, hlo⟩ : ∃ locs : List Loc, locs = [] := ⟨_, rfl⟩
  rw [← hH, ← hlo] at hw ⊢
  have hl : lv_has ls 5 [(0, .ref (q 15)), (1, .ref (q (26 + r1))), (2, .int v2), (3, .ref (q (26 + r3)))] := hl
  refine lv_aload_n hx hb dX2_multiplyOften_0 rfl (lv_at hl 0 rfl) ?_
  refine gf_2_15 F hw dX2_multiplyOften_1 ?_
  refine lv_iconst (v := 1) hx hb dX2_multiplyOften_4 (by decide) ?_
  obtain ⟨z1, hz1, h⟩ := stB h
  refine ctSN (av := [.ref (q (26 + 30)), .int 1]) (st0 := ([] : List Value)) (st1 := ([] : List Value)) (host := RX4) F hw hA (k_X4_setWhole (by decide) hz1) (by decide +kernel) kn_X4_setWhole ki_4 ks_X4_setWhole kd_X4_setWhole rfl ⟨by decide, by decide⟩ hl.1 rfl (Nat.le_of_ble_eq_true rfl) dX2_multiplyOften_5 rfl (fun H locs hw => ?_)
  refine lv_iconst (v := 0) hx hb dX2_multiplyOften_8 (by decide) ?_
  refine lv_istore (lv' := [(4, .int 0), (0, .ref (q 15)), (1, .ref (q (26 + r1))), (2, .int v2), (3, .ref (q (26 + r3)))]) hx hb dX2_multiplyOften_9 hl (by decide) rfl (fun ls hl => ?_)
  exact w_X2_multiplyOften_L11 F hA hr1 hr3 FU _ _ _ _ _ _ _ _ z h hE H locs ls hw (lv_sub hl [1, 2, 3, 4, 0] rfl)
end
theorem dMathFloorMod_0 : decode cMathFloorMod 0 = .ok (.iload_n 0, 1) := by decide +kernel
theorem dMathFloorMod_1 : decode cMathFloorMod 1 = .ok (.iload_n 1, 1) := by decide +kernel
theorem dMathFloorMod_2 : decode cMathFloorMod 2 = .ok (.irem, 1) := by decide +kernel
theorem dMathFloorMod_3 : decode cMathFloorMod 3 = .ok (.istore_n 2, 1) := by decide +kernel
theorem dMathFloorMod_4 : decode cMathFloorMod 4 = .ok (.iload_n 0, 1) := by decide +kernel
theorem dMathFloorMod_5 : decode cMathFloorMod 5 = .ok (.iload_n 1, 1) := by decide +kernel
theorem dMathFloorMod_6 : decode cMathFloorMod 6 = .ok (.ixor, 1) := by decide +kernel
theorem dMathFloorMod_7 : decode cMathFloorMod 7 = .ok (.ifCond .ge 11, 3) := by decide +kernel
theorem dMathFloorMod_10 : decode cMathFloorMod 10 = .ok (.iload_n 2, 1) := by decide +kernel
theorem dMathFloorMod_11 : decode cMathFloorMod 11 = .ok (.ifCond .eq 7, 3) := by decide +kernel
theorem dMathFloorMod_14 : decode cMathFloorMod 14 = .ok (.iload_n 2, 1) := by decide +kernel
theorem dMathFloorMod_15 : decode cMathFloorMod 15 = .ok (.iload_n 1, 1) := by decide +kernel
theorem dMathFloorMod_16 : decode cMathFloorMod 16 = .ok (.iadd, 1) := by decide +kernel
theorem dMathFloorMod_17 : decode cMathFloorMod 17 = .ok (.ireturn, 1) := by decide +kernel
theorem dMathFloorMod_18 : decode cMathFloorMod 18 = .ok (.iload_n 2, 1) := by decide +kernel
theorem dMathFloorMod_19 : decode cMathFloorMod 19 = .ok (.ireturn, 1) := by decide +kernel
section
variable {p : Program} {l : Launch} {e : Env} {s : State} {m : MethodId} {args : Array Value} {below : List Frame} {meth : Method} {c : Code} {Q : State → Prop} {G : GG} {A : Nat → Prop} {q : Nat → Nat} {fr : va_W}
def f_MathFloorMod (v0 : Int32) (v1 : Int32) : Option (Int32) :=
  if v1 = 0 then none else
  if 0 ≤ (v0 ^^^ v1) then
  some (v0 - v0 / v1 * v1)
  else
  if (v0 - v0 / v1 * v1) = 0 then
  some (v0 - v0 / v1 * v1)
  else
  some ((v0 - v0 / v1 * v1) + v1)
set_option maxHeartbeats 4000000 in
set_option maxRecDepth 100000 in
theorem k_MathFloorMod {l : Launch} {G : GG} {fr : va_W}   {v0 : Int32} {v1 : Int32} {z : Int32}  (h : f_MathFloorMod v0 v1 = some z) : Ct l G yMathFloorMod cMathFloorMod 3 (some .int) 0 0 [.int v0, .int v1] fr (some (.int z)) fr := by
  refine Ct.of (by decide +kernel) (Nat.le_of_ble_eq_true rfl) trivial ?_
  intro p e s m args below meth c Q A ls F hw hA hE hl
  have hx := F.x
  have hb := F.b
  unfold f_MathFloorMod at h
  obtain ⟨H, hH⟩ : ∃ H, H = s.heap := ⟨_, rfl⟩
  obtain ⟨locs, hlo⟩ : ∃ locs : List Loc, locs = [] := ⟨_, rfl⟩
  rw [← hH, ← hlo] at hw ⊢
  have hl : lv_has ls 3 [(0, .int v0), (1, .int v1)] := hl
  refine lv_iload_n hx hb dMathFloorMod_0 rfl (lv_at hl 0 rfl) ?_
  refine lv_iload_n hx hb dMathFloorMod_1 rfl (lv_at hl 1 rfl) ?_
  obtain ⟨g1, h⟩ := stD h
  refine lv_irem hx hb dMathFloorMod_2 g1 ?_
  refine lv_istore_n (lv' := [(2, .int (v0 - v0 / v1 * v1)), (0, .int v0), (1, .int v1)]) hx hb dMathFloorMod_3 rfl hl (by decide) rfl (fun ls hl => ?_)
  refine lv_iload_n hx hb dMathFloorMod_4 rfl (lv_at hl 1 rfl) ?_
  refine lv_iload_n hx hb dMathFloorMod_5 rfl (lv_at hl 2 rfl) ?_
  refine lv_ixor hx hb dMathFloorMod_6 ?_
  refine lv_if_ge (tgt := 18) hx hb dMathFloorMod_7 (by decide) (fun c2 => ?_) (fun c2 => ?_)
  · replace h := stT c2 h
    refine lv_iload_n hx hb dMathFloorMod_18 rfl (lv_at hl 0 rfl) ?_
    obtain rfl := Option.some.inj h
    exact hE H locs _ ls hw dMathFloorMod_19
  · replace h := stF c2 h
    refine lv_iload_n hx hb dMathFloorMod_10 rfl (lv_at hl 0 rfl) ?_
    refine lv_if_eq (tgt := 18) hx hb dMathFloorMod_11 (by decide) (fun c3 => ?_) (fun c3 => ?_)
    · replace h := stT c3 h
      refine lv_iload_n hx hb dMathFloorMod_18 rfl (lv_at hl 0 rfl) ?_
      obtain rfl := Option.some.inj h
      exact hE H locs _ ls hw dMathFloorMod_19
    · replace h := stF c3 h
      refine lv_iload_n hx hb dMathFloorMod_14 rfl (lv_at hl 0 rfl) ?_
      refine lv_iload_n hx hb dMathFloorMod_15 rfl (lv_at hl 2 rfl) ?_
      refine lv_iadd hx hb dMathFloorMod_16 ?_
      obtain rfl := Option.some.inj h
      exact hE H locs _ ls hw dMathFloorMod_17
end
theorem dX2_turnRow_0 : decode cX2_turnRow 0 = .ok (.iload_n 2, 1) := by decide +kernel
theorem dX2_turnRow_1 : decode cX2_turnRow 1 = .ok (.aload_n 0, 1) := by decide +kernel
theorem dX2_turnRow_2 : decode cX2_turnRow 2 = .ok (.getfield 21, 3) := by decide +kernel
theorem dX2_turnRow_5 : decode cX2_turnRow 5 = .ok (.getfield 29, 3) := by decide +kernel
theorem dX2_turnRow_8 : decode cX2_turnRow 8 = .ok (.invokestatic 86, 3) := by decide +kernel
theorem dX2_turnRow_11 : decode cX2_turnRow 11 = .ok (.istore 4, 2) := by decide +kernel
theorem dX2_turnRow_13 : decode cX2_turnRow 13 = .ok (.iconst 0, 1) := by decide +kernel
theorem dX2_turnRow_14 : decode cX2_turnRow 14 = .ok (.istore 5, 2) := by decide +kernel
theorem dX2_turnRow_16 : decode cX2_turnRow 16 = .ok (.iload 5, 2) := by decide +kernel
theorem dX2_turnRow_18 : decode cX2_turnRow 18 = .ok (.aload_n 0, 1) := by decide +kernel
theorem dX2_turnRow_19 : decode cX2_turnRow 19 = .ok (.getfield 21, 3) := by decide +kernel
theorem dX2_turnRow_22 : decode cX2_turnRow 22 = .ok (.getfield 29, 3) := by decide +kernel
theorem dX2_turnRow_25 : decode cX2_turnRow 25 = .ok (.if_icmp .ge 31, 3) := by decide +kernel
theorem dX2_turnRow_28 : decode cX2_turnRow 28 = .ok (.aload_n 0, 1) := by decide +kernel
theorem dX2_turnRow_29 : decode cX2_turnRow 29 = .ok (.getfield 9, 3) := by decide +kernel
theorem dX2_turnRow_32 : decode cX2_turnRow 32 = .ok (.iload 5, 2) := by decide +kernel
theorem dX2_turnRow_34 : decode cX2_turnRow 34 = .ok (.iload 4, 2) := by decide +kernel
theorem dX2_turnRow_36 : decode cX2_turnRow 36 = .ok (.iadd, 1) := by decide +kernel
theorem dX2_turnRow_37 : decode cX2_turnRow 37 = .ok (.aload_n 0, 1) := by decide +kernel
theorem dX2_turnRow_38 : decode cX2_turnRow 38 = .ok (.getfield 21, 3) := by decide +kernel
theorem dX2_turnRow_41 : decode cX2_turnRow 41 = .ok (.getfield 29, 3) := by decide +kernel
theorem dX2_turnRow_44 : decode cX2_turnRow 44 = .ok (.irem, 1) := by decide +kernel
theorem dX2_turnRow_45 : decode cX2_turnRow 45 = .ok (.aload_n 1, 1) := by decide +kernel
theorem dX2_turnRow_46 : decode cX2_turnRow 46 = .ok (.iload 5, 2) := by decide +kernel
theorem dX2_turnRow_48 : decode cX2_turnRow 48 = .ok (.laload, 1) := by decide +kernel
theorem dX2_turnRow_49 : decode cX2_turnRow 49 = .ok (.lastore, 1) := by decide +kernel
theorem dX2_turnRow_50 : decode cX2_turnRow 50 = .ok (.iinc 5 1, 3) := by decide +kernel
theorem dX2_turnRow_53 : decode cX2_turnRow 53 = .ok (.goto (-37), 3) := by decide +kernel
theorem dX2_turnRow_56 : decode cX2_turnRow 56 = .ok (.aload_n 0, 1) := by decide +kernel
theorem dX2_turnRow_57 : decode cX2_turnRow 57 = .ok (.getfield 9, 3) := by decide +kernel
theorem dX2_turnRow_60 : decode cX2_turnRow 60 = .ok (.aload_n 3, 1) := by decide +kernel
theorem dX2_turnRow_61 : decode cX2_turnRow 61 = .ok (.invokestatic 45, 3) := by decide +kernel
theorem dX2_turnRow_64 : decode cX2_turnRow 64 = .ok (.return_, 1) := by decide +kernel
section
variable {p : Program} {l : Launch} {e : Env} {s : State} {m : MethodId} {args : Array Value} {below : List Frame} {meth : Method} {c : Code} {Q : State → Prop} {G : GG} {A : Nat → Prop} {q : Nat → Nat} {fr : va_W}
def f_X2_turnRow_L16 (ze : Int32) (r1 : Nat) (v2 : Int32) (r3 : Nat) : Nat → (Nat → Nat → Int64) → Int32 → Int32 → Option ((Nat → Nat → Int64))
  | 0, _, _, _ => none
  | fu + 1, M, v4, v5 =>
    if ze ≤ v5 then
    (f_X4_copyRow M 29 r3).bind fun z2 =>
    some z2
    else
    if ze = 0 then none else
    if inb v5 (rl r1) then
    if inb ((v5 + v4) - (v5 + v4) / ze * ze) (rl 29) then
    f_X2_turnRow_L16 ze r1 v2 r3 fu (va_up M 29 (vp_updL (M 29) ((v5 + v4) - (v5 + v4) / ze * ze).toNatClampNeg (M r1 v5.toNatClampNeg))) v4 (v5 + 1)
    else none
    else none
set_option maxHeartbeats 4000000 in
set_option maxRecDepth 100000 in
theorem w_X2_turnRow_L16  {zp : Int32} {ze : Int32} {zf : Int32} {zg : Int32} {zn : Int32} {aG : Nat → Int32} {aW : Nat → Int32} {aR : Nat → Int32} {aN : Nat → Int32} {aF : Nat → Int32} {lC : Nat → Int64} {lS : Nat → Int64} {lP : Nat → Int64} {lX : Nat → Int64} {ztc : Int32} {aTs : Nat → Int32} {aTn : Nat → Int32} {zoc : Int32} {aOs : Nat → Int32} {aOn : Nat → Int32} {aTp : Nat → Int32} {zln : Int32} {zpl : Int32} {zfa : Int32} {aSz : Nat → Int32} {zit : Int32} {zip : Int32} {zic : Int32} {zig : Int32} {r1 : Nat} {v2 : Int32} {r3 : Nat}  (F : Fx p s m args meth c cX2_turnRow 6 RX2 none) (hA : ∀ q, s.heap.size ≤ q → A q) (hr1 : r1 < 32) (hr3 : r3 < 32)  : ∀ (fu : Nat) (M : Nat → Nat → Int64) (v4 : Int32) (v5 : Int32) (z : (Nat → Nat → Int64)), f_X2_turnRow_L16 ze r1 v2 r3 fu M v4 v5 = some z → Ends p l e (rmOf 1 22) s m args below meth c Q cX2_turnRow G A none (none) (kW G q zp ze zf zg zn aG aW aR aN aF lC lS lP lX ++ (oW G q ztc aTs aTn zoc aOs aOn aTp zln zpl zfa aSz zit zip zic zig z ++ fr)) → ∀ (H : Heap) (locs : List Loc) (ls : Array Slot), Wd G s A (kW G q zp ze zf zg zn aG aW aR aN aF lC lS lP lX ++ (oW G q ztc aTs aTn zoc aOs aOn aTp zln zpl zfa aSz zit zip zic zig M ++ fr)) H locs → lv_has ls 6 [(0, .ref (q 15)), (1, .ref (q (26 + r1))), (3, .ref (q (26 + r3))), (4, .int v4), (5, .int v5)] → W p l e (rmOf 1 22) s m args below meth c H locs 0 0 Q (F0 m 16 ls []) := by
  have hx := F.x
  have hb := F.b
  intro fu
  induction fu with
  | zero =>
    intro M v4 v5 z h
    cases (h : none = some z)
  | succ fu ih =>
    intro M v4 v5 z h hE H locs ls hw hl
    rw [f_X2_turnRow_L16] at h
    refine lv_iload hx hb dX2_turnRow_16 (lv_at hl 4 rfl) ?_
    refine lv_aload_n hx hb dX2_turnRow_18 rfl (lv_at hl 0 rfl) ?_
    refine gf_2_21 F hw dX2_turnRow_19 ?_
    refine gf_2_29 F hw dX2_turnRow_22 ?_
    refine lv_icmp_ge (tgt := 56) hx hb dX2_turnRow_25 (by decide) (fun c1 => ?_) (fun c1 => ?_)
    · replace h := stT c1 h
      refine lv_aload_n hx hb dX2_turnRow_56 rfl (lv_at hl 0 rfl) ?_
      refine gf_2_9 F hw dX2_turnRow_57 ?_
      refine lv_aload_n hx hb dX2_turnRow_60 rfl (lv_at hl 2 rfl) ?_
      obtain ⟨z2, hz2, h⟩ := stB h
      refine ctSN (av := [.ref (q (26 + 29)), .ref (q (26 + r3))]) (st0 := ([] : List Value)) (st1 := ([] : List Value)) (host := RX4) F hw hA (k_X4_copyRow (by decide) hr3 hz2) (by decide +kernel) kn_X4_copyRow ki_4 ks_X4_copyRow kd_X4_copyRow rfl ⟨by decide, by decide⟩ hl.1 rfl (Nat.le_of_ble_eq_true rfl) dX2_turnRow_61 rfl (fun H locs hw => ?_)
      obtain rfl := Option.some.inj h
      exact hE H locs _ ls hw dX2_turnRow_64
    · replace h := stF c1 h
      refine lv_aload_n hx hb dX2_turnRow_28 rfl (lv_at hl 0 rfl) ?_
      refine gf_2_9 F hw dX2_turnRow_29 ?_
      refine lv_iload hx hb dX2_turnRow_32 (lv_at hl 4 rfl) ?_
      refine lv_iload hx hb dX2_turnRow_34 (lv_at hl 3 rfl) ?_
      refine lv_iadd hx hb dX2_turnRow_36 ?_
      refine lv_aload_n hx hb dX2_turnRow_37 rfl (lv_at hl 0 rfl) ?_
      refine gf_2_21 F hw dX2_turnRow_38 ?_
      refine gf_2_29 F hw dX2_turnRow_41 ?_
      obtain ⟨g3, h⟩ := stD h
      refine lv_irem hx hb dX2_turnRow_44 g3 ?_
      refine lv_aload_n hx hb dX2_turnRow_45 rfl (lv_at hl 1 rfl) ?_
      refine lv_iload hx hb dX2_turnRow_46 (lv_at hl 4 rfl) ?_
      obtain ⟨g4, h⟩ := stG h
      refine al_row F hw hr1 g4 dX2_turnRow_48 ?_
      obtain ⟨g5, h⟩ := stG h
      refine as_row F hw (by decide) g5 dX2_turnRow_49 (fun H locs hw => ?_)
      refine lv_iinc (v := (v5 + 1)) (lv' := [(5, .int (v5 + 1)), (0, .ref (q 15)), (1, .ref (q (26 + r1))), (3, .ref (q (26 + r3))), (4, .int v4)]) hx hb dX2_turnRow_50 hl (k := 4) rfl rfl (by decide) rfl (fun ls hl => ?_)
      refine lv_goto (tgt := 16) hx hb dX2_turnRow_53 (by decide) ?_
      exact ih _ _ _ z h hE H locs ls hw (lv_sub hl [1, 2, 3, 4, 0] rfl)
def f_X2_turnRow (ze : Int32) (M : Nat → Nat → Int64) (r1 : Nat) (v2 : Int32) (r3 : Nat) : Option ((Nat → Nat → Int64)) :=
  (f_MathFloorMod v2 ze).bind fun z1 =>
  f_X2_turnRow_L16 ze r1 v2 r3 FU M z1 0
set_option maxHeartbeats 4000000 in
set_option maxRecDepth 100000 in
theorem k_X2_turnRow {l : Launch} {G : GG} {q : Nat → Nat} {fr : va_W}  {zp : Int32} {ze : Int32} {zf : Int32} {zg : Int32} {zn : Int32} {aG : Nat → Int32} {aW : Nat → Int32} {aR : Nat → Int32} {aN : Nat → Int32} {aF : Nat → Int32} {lC : Nat → Int64} {lS : Nat → Int64} {lP : Nat → Int64} {lX : Nat → Int64} {ztc : Int32} {aTs : Nat → Int32} {aTn : Nat → Int32} {zoc : Int32} {aOs : Nat → Int32} {aOn : Nat → Int32} {aTp : Nat → Int32} {zln : Int32} {zpl : Int32} {zfa : Int32} {aSz : Nat → Int32} {zit : Int32} {zip : Int32} {zic : Int32} {zig : Int32} {M : Nat → Nat → Int64} {r1 : Nat} {v2 : Int32} {r3 : Nat} {z : (Nat → Nat → Int64)} (hr1 : r1 < 32) (hr3 : r3 < 32) (h : f_X2_turnRow ze M r1 v2 r3 = some z) : Ct l G yX2_turnRow cX2_turnRow 6 none 1 22 [.ref (q 15), .ref (q (26 + r1)), .int v2, .ref (q (26 + r3))] (kW G q zp ze zf zg zn aG aW aR aN aF lC lS lP lX ++ (oW G q ztc aTs aTn zoc aOs aOn aTp zln zpl zfa aSz zit zip zic zig M ++ fr)) (none) (kW G q zp ze zf zg zn aG aW aR aN aF lC lS lP lX ++ (oW G q ztc aTs aTn zoc aOs aOn aTp zln zpl zfa aSz zit zip zic zig z ++ fr)) := by
  refine Ct.of (by decide +kernel) (Nat.le_of_ble_eq_true rfl) trivial ?_
  intro p e s m args below meth c Q A ls F hw hA hE hl
  have hx := F.x
  have hb := F.b
  unfold f_X2_turnRow at h
  obtain ⟨H, hH⟩ : ∃ H, H = s.heap := ⟨_, rfl⟩
  obtain ⟨locs, hlo⟩ : ∃ locs : List Loc, locs = [] := ⟨_, rfl⟩
  rw [← hH, ← hlo] at hw ⊢
  have hl : lv_has ls 6 [(0, .ref (q 15)), (1, .ref (q (26 + r1))), (2, .int v2), (3, .ref (q (26 + r3)))] := hl
  refine lv_iload_n hx hb dX2_turnRow_0 rfl (lv_at hl 2 rfl) ?_
  refine lv_aload_n hx hb dX2_turnRow_1 rfl (lv_at hl 0 rfl) ?_
  refine gf_2_21 F hw dX2_turnRow_2 ?_
  refine gf_2_29 F hw dX2_turnRow_5 ?_
  obtain ⟨z1, hz1, h⟩ := stB h
  refine ctS (av := [.int v2, .int ze]) (st0 := ([] : List Value)) (st1 := ([.int z1] : List Value)) F hw hA (k_MathFloorMod hz1) kl_2_86 kd_MathFloorMod rfl ⟨by decide, by decide⟩ hl.1 rfl (Nat.le_of_ble_eq_true rfl) dX2_turnRow_8 rfl (fun H locs hw => ?_)
  refine lv_istore (lv' := [(4, .int z1), (0, .ref (q 15)), (1, .ref (q (26 + r1))), (2, .int v2), (3, .ref (q (26 + r3)))]) hx hb dX2_turnRow_11 hl (by decide) rfl (fun ls hl => ?_)
  refine lv_iconst (v := 0) hx hb dX2_turnRow_13 (by decide) ?_
  refine lv_istore (lv' := [(5, .int 0), (4, .int z1), (0, .ref (q 15)), (1, .ref (q (26 + r1))), (2, .int v2), (3, .ref (q (26 + r3)))]) hx hb dX2_turnRow_14 hl (by decide) rfl (fun ls hl => ?_)
  exact w_X2_turnRow_L16 F hA hr1 hr3 FU _ _ _ z h hE H locs ls hw (lv_sub hl [2, 3, 5, 1, 0] rfl)
end
theorem dX2_negated_0 : decode cX2_negated 0 = .ok (.lconst 0, 1) := by decide +kernel
theorem dX2_negated_1 : decode cX2_negated 1 = .ok (.lload_n 1, 1) := by decide +kernel
theorem dX2_negated_2 : decode cX2_negated 2 = .ok (.invokestatic 49, 3) := by decide +kernel
theorem dX2_negated_5 : decode cX2_negated 5 = .ok (.ifCond .eq 6, 3) := by decide +kernel
theorem dX2_negated_8 : decode cX2_negated 8 = .ok (.lload_n 1, 1) := by decide +kernel
theorem dX2_negated_9 : decode cX2_negated 9 = .ok (.lneg, 1) := by decide +kernel
theorem dX2_negated_10 : decode cX2_negated 10 = .ok (.lreturn, 1) := by decide +kernel
theorem dX2_negated_11 : decode cX2_negated 11 = .ok (.aload_n 0, 1) := by decide +kernel
theorem dX2_negated_12 : decode cX2_negated 12 = .ok (.getfield 25, 3) := by decide +kernel
theorem dX2_negated_15 : decode cX2_negated 15 = .ok (.iconst 4, 1) := by decide +kernel
theorem dX2_negated_16 : decode cX2_negated 16 = .ok (.aload_n 0, 1) := by decide +kernel
theorem dX2_negated_17 : decode cX2_negated 17 = .ok (.getfield 21, 3) := by decide +kernel
theorem dX2_negated_20 : decode cX2_negated 20 = .ok (.getfield 29, 3) := by decide +kernel
theorem dX2_negated_23 : decode cX2_negated 23 = .ok (.invokevirtual 39, 3) := by decide +kernel
theorem dX2_negated_26 : decode cX2_negated 26 = .ok (.pop, 1) := by decide +kernel
theorem dX2_negated_27 : decode cX2_negated 27 = .ok (.ldc2_w 96, 3) := by decide +kernel
theorem dX2_negated_30 : decode cX2_negated 30 = .ok (.lreturn, 1) := by decide +kernel
section
variable {p : Program} {l : Launch} {e : Env} {s : State} {m : MethodId} {args : Array Value} {below : List Frame} {meth : Method} {c : Code} {Q : State → Prop} {G : GG} {A : Nat → Prop} {q : Nat → Nat} {fr : va_W}
def f_X2_negated (ze : Int32) (ztc : Int32) (aTs : Nat → Int32) (aTn : Nat → Int32) (zoc : Int32) (aOs : Nat → Int32) (aOn : Nat → Int32) (v1 : Int64) : Option (Int64 × Int32 × (Nat → Int32) × (Nat → Int32) × Int32) :=
  (f_X2_differenceFits 0 v1).bind fun z1 =>
  if z1 = 0 then
  (f_X3_report ztc aTs aTn zoc aOs aOn 4 ze).bind fun z3 =>
  some ((-9223372036854775808), z3.2.1, z3.2.2.1, z3.2.2.2.1, z3.2.2.2.2)
  else
  some ((-v1), ztc, aTs, aTn, zoc)
set_option maxHeartbeats 4000000 in
set_option maxRecDepth 100000 in
theorem k_X2_negated {l : Launch} {G : GG} {q : Nat → Nat} {fr : va_W}  {zp : Int32} {ze : Int32} {zf : Int32} {zg : Int32} {zn : Int32} {aG : Nat → Int32} {aW : Nat → Int32} {aR : Nat → Int32} {aN : Nat → Int32} {aF : Nat → Int32} {lC : Nat → Int64} {lS : Nat → Int64} {lP : Nat → Int64} {lX : Nat → Int64} {ztc : Int32} {aTs : Nat → Int32} {aTn : Nat → Int32} {zoc : Int32} {aOs : Nat → Int32} {aOn : Nat → Int32} {aTp : Nat → Int32} {zln : Int32} {zpl : Int32} {zfa : Int32} {aSz : Nat → Int32} {zit : Int32} {zip : Int32} {zic : Int32} {zig : Int32} {M : Nat → Nat → Int64} {v1 : Int64} {z : Int64 × Int32 × (Nat → Int32) × (Nat → Int32) × Int32}  (h : f_X2_negated ze ztc aTs aTn zoc aOs aOn v1 = some z) : Ct l G yX2_negated cX2_negated 3 (some .long) 1 25 [.ref (q 15), .long v1] (kW G q zp ze zf zg zn aG aW aR aN aF lC lS lP lX ++ (oW G q ztc aTs aTn zoc aOs aOn aTp zln zpl zfa aSz zit zip zic zig M ++ fr)) (some (.long z.1)) (kW G q zp ze zf zg zn aG aW aR aN aF lC lS lP lX ++ (oW G q z.2.1 z.2.2.1 z.2.2.2.1 z.2.2.2.2 aOs aOn aTp zln zpl zfa aSz zit zip zic zig M ++ fr)) := by
  refine Ct.of (by decide +kernel) (Nat.le_of_ble_eq_true rfl) trivial ?_
  intro p e s m args below meth c Q A ls F hw hA hE hl
  have hx := F.x
  have hb := F.b
  unfold f_X2_negated at h
  obtain ⟨H, hH⟩ : ∃ H, H = s.heap := ⟨_, rfl⟩
  obtain ⟨locs, hlo⟩ : ∃ locs : List Loc, locs = [] := ⟨_, rfl⟩
  rw [← hH, ← hlo] at hw ⊢
  have hl : lv_has ls 3 [(0, .ref (q 15)), (1, .long v1)] := hl
  refine lv_lconst (v := 0) hx hb dX2_negated_0 (by decide) ?_
  refine lv_lload_n hx hb dX2_negated_1 rfl (lv_at hl 1 rfl) ?_
  obtain ⟨z1, hz1, h⟩ := stB h
  refine ctS (av := [.long 0, .long v1]) (st0 := ([] : List Value)) (st1 := ([.int z1] : List Value)) F hw hA (k_X2_differenceFits hz1) kl_2_49 kd_X2_differenceFits rfl ⟨by decide, by decide⟩ hl.1 rfl (Nat.le_of_ble_eq_true rfl) dX2_negated_2 rfl (fun H locs hw => ?_)
  refine lv_if_eq (tgt := 11) hx hb dX2_negated_5 (by decide) (fun c2 => ?_) (fun c2 => ?_)
  · replace h := stT c2 h
    refine lv_aload_n hx hb dX2_negated_11 rfl (lv_at hl 0 rfl) ?_
    refine gf_2_25 F hw dX2_negated_12 ?_
    refine lv_iconst (v := 4) hx hb dX2_negated_15 (by decide) ?_
    refine lv_aload_n hx hb dX2_negated_16 rfl (lv_at hl 0 rfl) ?_
    refine gf_2_21 F hw dX2_negated_17 ?_
    refine gf_2_29 F hw dX2_negated_20 ?_
    obtain ⟨z3, hz3, h⟩ := stB h
    refine ctV (av := [.int 4, .int ze]) (st0 := ([] : List Value)) (st1 := ([.int z3.1] : List Value)) F hw hA (k_X3_report hz3) kl_2_39 kd_X3_report rfl ⟨by decide, by decide⟩ 10 rfl rfl hl.1 rfl (Nat.le_of_ble_eq_true rfl) dX2_negated_23 rfl (fun H locs hw => ?_)
    refine lv_pop hx hb dX2_negated_26 rfl ?_
    refine lv_ldc2 (v := -9223372036854775808) hx hb F.ow (F.ts _ kc_2_96) dX2_negated_27 ?_
    obtain rfl := Option.some.inj h
    exact hE H locs _ ls hw dX2_negated_30
  · replace h := stF c2 h
    refine lv_lload_n hx hb dX2_negated_8 rfl (lv_at hl 1 rfl) ?_
    refine lv_lneg hx hb dX2_negated_9 ?_
    obtain rfl := Option.some.inj h
    exact hE H locs _ ls hw dX2_negated_10
end
theorem dX2_normOf_0 : decode cX2_normOf 0 = .ok (.aload_n 0, 1) := by decide +kernel
theorem dX2_normOf_1 : decode cX2_normOf 1 = .ok (.getfield 15, 3) := by decide +kernel
theorem dX2_normOf_4 : decode cX2_normOf 4 = .ok (.iconst 1, 1) := by decide +kernel
theorem dX2_normOf_5 : decode cX2_normOf 5 = .ok (.invokestatic 67, 3) := by decide +kernel
theorem dX2_normOf_8 : decode cX2_normOf 8 = .ok (.iconst 0, 1) := by decide +kernel
theorem dX2_normOf_9 : decode cX2_normOf 9 = .ok (.istore_n 2, 1) := by decide +kernel
theorem dX2_normOf_10 : decode cX2_normOf 10 = .ok (.iload_n 2, 1) := by decide +kernel
theorem dX2_normOf_11 : decode cX2_normOf 11 = .ok (.aload_n 0, 1) := by decide +kernel
theorem dX2_normOf_12 : decode cX2_normOf 12 = .ok (.getfield 21, 3) := by decide +kernel
theorem dX2_normOf_15 : decode cX2_normOf 15 = .ok (.getfield 29, 3) := by decide +kernel
theorem dX2_normOf_18 : decode cX2_normOf 18 = .ok (.if_icmp .ge 35, 3) := by decide +kernel
theorem dX2_normOf_21 : decode cX2_normOf 21 = .ok (.aload_n 0, 1) := by decide +kernel
theorem dX2_normOf_22 : decode cX2_normOf 22 = .ok (.aload_n 1, 1) := by decide +kernel
theorem dX2_normOf_23 : decode cX2_normOf 23 = .ok (.iload_n 2, 1) := by decide +kernel
theorem dX2_normOf_24 : decode cX2_normOf 24 = .ok (.aload_n 0, 1) := by decide +kernel
theorem dX2_normOf_25 : decode cX2_normOf 25 = .ok (.getfield 18, 3) := by decide +kernel
theorem dX2_normOf_28 : decode cX2_normOf 28 = .ok (.invokevirtual 92, 3) := by decide +kernel
theorem dX2_normOf_31 : decode cX2_normOf 31 = .ok (.aload_n 0, 1) := by decide +kernel
theorem dX2_normOf_32 : decode cX2_normOf 32 = .ok (.aload_n 0, 1) := by decide +kernel
theorem dX2_normOf_33 : decode cX2_normOf 33 = .ok (.getfield 18, 3) := by decide +kernel
theorem dX2_normOf_36 : decode cX2_normOf 36 = .ok (.iload_n 2, 1) := by decide +kernel
theorem dX2_normOf_37 : decode cX2_normOf 37 = .ok (.invokevirtual 71, 3) := by decide +kernel
theorem dX2_normOf_40 : decode cX2_normOf 40 = .ok (.ifCond .ne 7, 3) := by decide +kernel
theorem dX2_normOf_43 : decode cX2_normOf 43 = .ok (.ldc2_w 96, 3) := by decide +kernel
theorem dX2_normOf_46 : decode cX2_normOf 46 = .ok (.lreturn, 1) := by decide +kernel
theorem dX2_normOf_47 : decode cX2_normOf 47 = .ok (.iinc 2 1, 3) := by decide +kernel
theorem dX2_normOf_50 : decode cX2_normOf 50 = .ok (.goto (-40), 3) := by decide +kernel
theorem dX2_normOf_53 : decode cX2_normOf 53 = .ok (.aload_n 0, 1) := by decide +kernel
theorem dX2_normOf_54 : decode cX2_normOf 54 = .ok (.aload_n 0, 1) := by decide +kernel
theorem dX2_normOf_55 : decode cX2_normOf 55 = .ok (.getfield 15, 3) := by decide +kernel
theorem dX2_normOf_58 : decode cX2_normOf 58 = .ok (.iconst 0, 1) := by decide +kernel
theorem dX2_normOf_59 : decode cX2_normOf 59 = .ok (.laload, 1) := by decide +kernel
theorem dX2_normOf_60 : decode cX2_normOf 60 = .ok (.invokevirtual 98, 3) := by decide +kernel
theorem dX2_normOf_63 : decode cX2_normOf 63 = .ok (.lreturn, 1) := by decide +kernel
section
variable {p : Program} {l : Launch} {e : Env} {s : State} {m : MethodId} {args : Array Value} {below : List Frame} {meth : Method} {c : Code} {Q : State → Prop} {G : GG} {A : Nat → Prop} {q : Nat → Nat} {fr : va_W}
def f_X2_normOf_L10 (ze : Int32) (aF : Nat → Int32) (r1 : Nat) : Nat → Int32 → (Nat → Int32) → (Nat → Int32) → Int32 → (Nat → Int32) → (Nat → Int32) → (Nat → Nat → Int64) → Int32 → Option (Int64 × Int32 × (Nat → Int32) × (Nat → Int32) × Int32 × (Nat → Int32) × (Nat → Int32) × (Nat → Nat → Int64))
  | 0, _, _, _, _, _, _, _, _ => none
  | fu + 1, ztc, aTs, aTn, zoc, aOs, aOn, M, v2 =>
    if ze ≤ v2 then
    if inb 0 (rl 30) then
    (f_X2_negated ze ztc aTs aTn zoc aOs aOn (M 30 (0 : Int32).toNatClampNeg)).bind fun z3 =>
    some (z3.1, z3.2.1, z3.2.2.1, z3.2.2.2.1, z3.2.2.2.2, aOs, aOn, M)
    else none
    else
    (f_X2_turnRow ze M r1 v2 31).bind fun z4 =>
    (f_X2_grow ze aF ztc aTs aTn zoc aOs aOn z4 31 v2).bind fun z5 =>
    if z5.1 = 0 then
    some ((-9223372036854775808), z5.2.1, z5.2.2.1, z5.2.2.2.1, z5.2.2.2.2.1, z5.2.2.2.2.2.1, z5.2.2.2.2.2.2.1, z5.2.2.2.2.2.2.2)
    else
    f_X2_normOf_L10 ze aF r1 fu z5.2.1 z5.2.2.1 z5.2.2.2.1 z5.2.2.2.2.1 z5.2.2.2.2.2.1 z5.2.2.2.2.2.2.1 z5.2.2.2.2.2.2.2 (v2 + 1)
set_option maxHeartbeats 4000000 in
set_option maxRecDepth 100000 in
theorem w_X2_normOf_L10  {zp : Int32} {ze : Int32} {zf : Int32} {zg : Int32} {zn : Int32} {aG : Nat → Int32} {aW : Nat → Int32} {aR : Nat → Int32} {aN : Nat → Int32} {aF : Nat → Int32} {lC : Nat → Int64} {lS : Nat → Int64} {lP : Nat → Int64} {lX : Nat → Int64} {aTp : Nat → Int32} {zln : Int32} {zpl : Int32} {zfa : Int32} {aSz : Nat → Int32} {zit : Int32} {zip : Int32} {zic : Int32} {zig : Int32} {r1 : Nat}  (F : Fx p s m args meth c cX2_normOf 3 RX2 (some .long)) (hA : ∀ q, s.heap.size ≤ q → A q) (hr1 : r1 < 32)  : ∀ (fu : Nat) (ztc : Int32) (aTs : Nat → Int32) (aTn : Nat → Int32) (zoc : Int32) (aOs : Nat → Int32) (aOn : Nat → Int32) (M : Nat → Nat → Int64) (v2 : Int32) (z : Int64 × Int32 × (Nat → Int32) × (Nat → Int32) × Int32 × (Nat → Int32) × (Nat → Int32) × (Nat → Nat → Int64)), f_X2_normOf_L10 ze aF r1 fu ztc aTs aTn zoc aOs aOn M v2 = some z → Ends p l e (rmOf 4 105) s m args below meth c Q cX2_normOf G A (some .long) (some (.long z.1)) (kW G q zp ze zf zg zn aG aW aR aN aF lC lS lP lX ++ (oW G q z.2.1 z.2.2.1 z.2.2.2.1 z.2.2.2.2.1 z.2.2.2.2.2.1 z.2.2.2.2.2.2.1 aTp zln zpl zfa aSz zit zip zic zig z.2.2.2.2.2.2.2 ++ fr)) → ∀ (H : Heap) (locs : List Loc) (ls : Array Slot), Wd G s A (kW G q zp ze zf zg zn aG aW aR aN aF lC lS lP lX ++ (oW G q ztc aTs aTn zoc aOs aOn aTp zln zpl zfa aSz zit zip zic zig M ++ fr)) H locs → lv_has ls 3 [(0, .ref (q 15)), (1, .ref (q (26 + r1))), (2, .int v2)] → W p l e (rmOf 4 105) s m args below meth c H locs 0 0 Q (F0 m 10 ls []) := by
  have hx := F.x
  have hb := F.b
  intro fu
  induction fu with
  | zero =>
    intro ztc aTs aTn zoc aOs aOn M v2 z h
    cases (h : none = some z)
  | succ fu ih =>
    intro ztc aTs aTn zoc aOs aOn M v2 z h hE H locs ls hw hl
    rw [f_X2_normOf_L10] at h
    refine lv_iload_n hx hb dX2_normOf_10 rfl (lv_at hl 2 rfl) ?_
    refine lv_aload_n hx hb dX2_normOf_11 rfl (lv_at hl 0 rfl) ?_
    refine gf_2_21 F hw dX2_normOf_12 ?_
    refine gf_2_29 F hw dX2_normOf_15 ?_
    refine lv_icmp_ge (tgt := 53) hx hb dX2_normOf_18 (by decide) (fun c1 => ?_) (fun c1 => ?_)
    · replace h := stT c1 h
      refine lv_aload_n hx hb dX2_normOf_53 rfl (lv_at hl 0 rfl) ?_
      refine lv_aload_n hx hb dX2_normOf_54 rfl (lv_at hl 0 rfl) ?_
      refine gf_2_15 F hw dX2_normOf_55 ?_
      refine lv_iconst (v := 0) hx hb dX2_normOf_58 (by decide) ?_
      obtain ⟨g2, h⟩ := stG h
      refine al_row F hw (by decide) g2 dX2_normOf_59 ?_
      obtain ⟨z3, hz3, h⟩ := stB h
      refine ctV (av := [.long (M 30 (0 : Int32).toNatClampNeg)]) (st0 := ([] : List Value)) (st1 := ([.long z3.1] : List Value)) F hw hA (k_X2_negated hz3) kl_2_98 kd_X2_negated rfl ⟨by decide, by decide⟩ 15 rfl rfl hl.1 rfl (Nat.le_of_ble_eq_true rfl) dX2_normOf_60 rfl (fun H locs hw => ?_)
      obtain rfl := Option.some.inj h
      exact hE H locs _ ls hw dX2_normOf_63
    · replace h := stF c1 h
      refine lv_aload_n hx hb dX2_normOf_21 rfl (lv_at hl 0 rfl) ?_
      refine lv_aload_n hx hb dX2_normOf_22 rfl (lv_at hl 1 rfl) ?_
      refine lv_iload_n hx hb dX2_normOf_23 rfl (lv_at hl 2 rfl) ?_
      refine lv_aload_n hx hb dX2_normOf_24 rfl (lv_at hl 0 rfl) ?_
      refine gf_2_18 F hw dX2_normOf_25 ?_
      obtain ⟨z4, hz4, h⟩ := stB h
      refine ctV (av := [.ref (q (26 + r1)), .int v2, .ref (q (26 + 31))]) (st0 := ([] : List Value)) (st1 := ([] : List Value)) F hw hA (k_X2_turnRow hr1 (by decide) hz4) kl_2_92 kd_X2_turnRow rfl ⟨by decide, by decide⟩ 15 rfl rfl hl.1 rfl (Nat.le_of_ble_eq_true rfl) dX2_normOf_28 rfl (fun H locs hw => ?_)
      refine lv_aload_n hx hb dX2_normOf_31 rfl (lv_at hl 0 rfl) ?_
      refine lv_aload_n hx hb dX2_normOf_32 rfl (lv_at hl 0 rfl) ?_
      refine gf_2_18 F hw dX2_normOf_33 ?_
      refine lv_iload_n hx hb dX2_normOf_36 rfl (lv_at hl 2 rfl) ?_
      obtain ⟨z5, hz5, h⟩ := stB h
      refine ctV (av := [.ref (q (26 + 31)), .int v2]) (st0 := ([] : List Value)) (st1 := ([.int z5.1] : List Value)) F hw hA (k_X2_grow (by decide) hz5) kl_2_71 kd_X2_grow rfl ⟨by decide, by decide⟩ 15 rfl rfl hl.1 rfl (Nat.le_of_ble_eq_true rfl) dX2_normOf_37 rfl (fun H locs hw => ?_)
      refine lv_if_ne (tgt := 47) hx hb dX2_normOf_40 (by decide) (fun c6 => ?_) (fun c6 => ?_)
      · replace h := stF c6 h
        refine lv_iinc (v := (v2 + 1)) (lv' := [(2, .int (v2 + 1)), (0, .ref (q 15)), (1, .ref (q (26 + r1)))]) hx hb dX2_normOf_47 hl (k := 2) rfl rfl (by decide) rfl (fun ls hl => ?_)
        refine lv_goto (tgt := 10) hx hb dX2_normOf_50 (by decide) ?_
        exact ih _ _ _ _ _ _ _ _ z h hE H locs ls hw (lv_sub hl [1, 2, 0] rfl)
      · replace h := stT c6 h
        refine lv_ldc2 (v := -9223372036854775808) hx hb F.ow (F.ts _ kc_2_96) dX2_normOf_43 ?_
        obtain rfl := Option.some.inj h
        exact hE H locs _ ls hw dX2_normOf_46
def f_X2_normOf (ze : Int32) (aF : Nat → Int32) (ztc : Int32) (aTs : Nat → Int32) (aTn : Nat → Int32) (zoc : Int32) (aOs : Nat → Int32) (aOn : Nat → Int32) (M : Nat → Nat → Int64) (r1 : Nat) : Option (Int64 × Int32 × (Nat → Int32) × (Nat → Int32) × Int32 × (Nat → Int32) × (Nat → Int32) × (Nat → Nat → Int64)) :=
  (f_X4_setWhole M 30 1).bind fun z1 =>
  f_X2_normOf_L10 ze aF r1 FU ztc aTs aTn zoc aOs aOn z1 0
set_option maxHeartbeats 4000000 in
set_option maxRecDepth 100000 in
theorem k_X2_normOf {l : Launch} {G : GG} {q : Nat → Nat} {fr : va_W}  {zp : Int32} {ze : Int32} {zf : Int32} {zg : Int32} {zn : Int32} {aG : Nat → Int32} {aW : Nat → Int32} {aR : Nat → Int32} {aN : Nat → Int32} {aF : Nat → Int32} {lC : Nat → Int64} {lS : Nat → Int64} {lP : Nat → Int64} {lX : Nat → Int64} {ztc : Int32} {aTs : Nat → Int32} {aTn : Nat → Int32} {zoc : Int32} {aOs : Nat → Int32} {aOn : Nat → Int32} {aTp : Nat → Int32} {zln : Int32} {zpl : Int32} {zfa : Int32} {aSz : Nat → Int32} {zit : Int32} {zip : Int32} {zic : Int32} {zig : Int32} {M : Nat → Nat → Int64} {r1 : Nat} {z : Int64 × Int32 × (Nat → Int32) × (Nat → Int32) × Int32 × (Nat → Int32) × (Nat → Int32) × (Nat → Nat → Int64)} (hr1 : r1 < 32) (h : f_X2_normOf ze aF ztc aTs aTn zoc aOs aOn M r1 = some z) : Ct l G yX2_normOf cX2_normOf 3 (some .long) 4 105 [.ref (q 15), .ref (q (26 + r1))] (kW G q zp ze zf zg zn aG aW aR aN aF lC lS lP lX ++ (oW G q ztc aTs aTn zoc aOs aOn aTp zln zpl zfa aSz zit zip zic zig M ++ fr)) (some (.long z.1)) (kW G q zp ze zf zg zn aG aW aR aN aF lC lS lP lX ++ (oW G q z.2.1 z.2.2.1 z.2.2.2.1 z.2.2.2.2.1 z.2.2.2.2.2.1 z.2.2.2.2.2.2.1 aTp zln zpl zfa aSz zit zip zic zig z.2.2.2.2.2.2.2 ++ fr)) := by
  refine Ct.of (by decide +kernel) (Nat.le_of_ble_eq_true rfl) trivial ?_
  intro p e s m args below meth c Q A ls F hw hA hE hl
  have hx := F.x
  have hb := F.b
  unfold f_X2_normOf at h
  obtain ⟨H, hH⟩ : ∃ H, H = s.heap := ⟨_, rfl⟩
  obtain ⟨locs, hlo⟩ : ∃ locs : List Loc, locs = [] := ⟨_, rfl⟩
  rw [← hH, ← hlo] at hw ⊢
  have hl : lv_has ls 3 [(0, .ref (q 15)), (1, .ref (q (26 + r1)))] := hl
  refine lv_aload_n hx hb dX2_normOf_0 rfl (lv_at hl 0 rfl) ?_
  refine gf_2_15 F hw dX2_normOf_1 ?_
  refine lv_iconst (v := 1) hx hb dX2_normOf_4 (by decide) ?_
  obtain ⟨z1, hz1, h⟩ := stB h
  refine ctSN (av := [.ref (q (26 + 30)), .int 1]) (st0 := ([] : List Value)) (st1 := ([] : List Value)) (host := RX4) F hw hA (k_X4_setWhole (by decide) hz1) (by decide +kernel) kn_X4_setWhole ki_4 ks_X4_setWhole kd_X4_setWhole rfl ⟨by decide, by decide⟩ hl.1 rfl (Nat.le_of_ble_eq_true rfl) dX2_normOf_5 rfl (fun H locs hw => ?_)
  refine lv_iconst (v := 0) hx hb dX2_normOf_8 (by decide) ?_
  refine lv_istore_n (lv' := [(2, .int 0), (0, .ref (q 15)), (1, .ref (q (26 + r1)))]) hx hb dX2_normOf_9 rfl hl (by decide) rfl (fun ls hl => ?_)
  exact w_X2_normOf_L10 F hA hr1 FU _ _ _ _ _ _ _ _ z h hE H locs ls hw (lv_sub hl [1, 2, 0] rfl)
end
theorem dX2_traceOf_0 : decode cX2_traceOf 0 = .ok (.lconst 0, 1) := by decide +kernel
theorem dX2_traceOf_1 : decode cX2_traceOf 1 = .ok (.lstore_n 2, 1) := by decide +kernel
theorem dX2_traceOf_2 : decode cX2_traceOf 2 = .ok (.iconst 0, 1) := by decide +kernel
theorem dX2_traceOf_3 : decode cX2_traceOf 3 = .ok (.istore 4, 2) := by decide +kernel
theorem dX2_traceOf_5 : decode cX2_traceOf 5 = .ok (.iload 4, 2) := by decide +kernel
theorem dX2_traceOf_7 : decode cX2_traceOf 7 = .ok (.aload_n 0, 1) := by decide +kernel
theorem dX2_traceOf_8 : decode cX2_traceOf 8 = .ok (.getfield 21, 3) := by decide +kernel
theorem dX2_traceOf_11 : decode cX2_traceOf 11 = .ok (.getfield 29, 3) := by decide +kernel
theorem dX2_traceOf_14 : decode cX2_traceOf 14 = .ok (.if_icmp .ge 42, 3) := by decide +kernel
theorem dX2_traceOf_17 : decode cX2_traceOf 17 = .ok (.lload_n 2, 1) := by decide +kernel
theorem dX2_traceOf_18 : decode cX2_traceOf 18 = .ok (.aload_n 1, 1) := by decide +kernel
theorem dX2_traceOf_19 : decode cX2_traceOf 19 = .ok (.iload 4, 2) := by decide +kernel
theorem dX2_traceOf_21 : decode cX2_traceOf 21 = .ok (.laload, 1) := by decide +kernel
theorem dX2_traceOf_22 : decode cX2_traceOf 22 = .ok (.invokestatic 35, 3) := by decide +kernel
theorem dX2_traceOf_25 : decode cX2_traceOf 25 = .ok (.ifCond .ne 18, 3) := by decide +kernel
theorem dX2_traceOf_28 : decode cX2_traceOf 28 = .ok (.aload_n 0, 1) := by decide +kernel
theorem dX2_traceOf_29 : decode cX2_traceOf 29 = .ok (.getfield 25, 3) := by decide +kernel
theorem dX2_traceOf_32 : decode cX2_traceOf 32 = .ok (.iconst 4, 1) := by decide +kernel
theorem dX2_traceOf_33 : decode cX2_traceOf 33 = .ok (.iload 4, 2) := by decide +kernel
theorem dX2_traceOf_35 : decode cX2_traceOf 35 = .ok (.invokevirtual 39, 3) := by decide +kernel
theorem dX2_traceOf_38 : decode cX2_traceOf 38 = .ok (.pop, 1) := by decide +kernel
theorem dX2_traceOf_39 : decode cX2_traceOf 39 = .ok (.ldc2_w 96, 3) := by decide +kernel
theorem dX2_traceOf_42 : decode cX2_traceOf 42 = .ok (.lreturn, 1) := by decide +kernel
theorem dX2_traceOf_43 : decode cX2_traceOf 43 = .ok (.lload_n 2, 1) := by decide +kernel
theorem dX2_traceOf_44 : decode cX2_traceOf 44 = .ok (.aload_n 1, 1) := by decide +kernel
theorem dX2_traceOf_45 : decode cX2_traceOf 45 = .ok (.iload 4, 2) := by decide +kernel
theorem dX2_traceOf_47 : decode cX2_traceOf 47 = .ok (.laload, 1) := by decide +kernel
theorem dX2_traceOf_48 : decode cX2_traceOf 48 = .ok (.ladd, 1) := by decide +kernel
theorem dX2_traceOf_49 : decode cX2_traceOf 49 = .ok (.lstore_n 2, 1) := by decide +kernel
theorem dX2_traceOf_50 : decode cX2_traceOf 50 = .ok (.iinc 4 1, 3) := by decide +kernel
theorem dX2_traceOf_53 : decode cX2_traceOf 53 = .ok (.goto (-48), 3) := by decide +kernel
theorem dX2_traceOf_56 : decode cX2_traceOf 56 = .ok (.aload_n 0, 1) := by decide +kernel
theorem dX2_traceOf_57 : decode cX2_traceOf 57 = .ok (.lload_n 2, 1) := by decide +kernel
theorem dX2_traceOf_58 : decode cX2_traceOf 58 = .ok (.invokevirtual 98, 3) := by decide +kernel
theorem dX2_traceOf_61 : decode cX2_traceOf 61 = .ok (.lreturn, 1) := by decide +kernel
section
variable {p : Program} {l : Launch} {e : Env} {s : State} {m : MethodId} {args : Array Value} {below : List Frame} {meth : Method} {c : Code} {Q : State → Prop} {G : GG} {A : Nat → Prop} {q : Nat → Nat} {fr : va_W}
def f_X2_traceOf_L5 (ze : Int32) (aOs : Nat → Int32) (aOn : Nat → Int32) (M : Nat → Nat → Int64) (r1 : Nat) : Nat → Int32 → (Nat → Int32) → (Nat → Int32) → Int32 → Int64 → Int32 → Option (Int64 × Int32 × (Nat → Int32) × (Nat → Int32) × Int32)
  | 0, _, _, _, _, _, _ => none
  | fu + 1, ztc, aTs, aTn, zoc, v2, v4 =>
    if ze ≤ v4 then
    (f_X2_negated ze ztc aTs aTn zoc aOs aOn v2).bind fun z2 =>
    some (z2.1, z2.2.1, z2.2.2.1, z2.2.2.2.1, z2.2.2.2.2)
    else
    if inb v4 (rl r1) then
    (f_X2_sumFits v2 (M r1 v4.toNatClampNeg)).bind fun z4 =>
    if z4 = 0 then
    (f_X3_report ztc aTs aTn zoc aOs aOn 4 v4).bind fun z7 =>
    some ((-9223372036854775808), z7.2.1, z7.2.2.1, z7.2.2.2.1, z7.2.2.2.2)
    else
    if inb v4 (rl r1) then
    f_X2_traceOf_L5 ze aOs aOn M r1 fu ztc aTs aTn zoc (v2 + (M r1 v4.toNatClampNeg)) (v4 + 1)
    else none
    else none
set_option maxHeartbeats 4000000 in
set_option maxRecDepth 100000 in
theorem w_X2_traceOf_L5  {zp : Int32} {ze : Int32} {zf : Int32} {zg : Int32} {zn : Int32} {aG : Nat → Int32} {aW : Nat → Int32} {aR : Nat → Int32} {aN : Nat → Int32} {aF : Nat → Int32} {lC : Nat → Int64} {lS : Nat → Int64} {lP : Nat → Int64} {lX : Nat → Int64} {aOs : Nat → Int32} {aOn : Nat → Int32} {aTp : Nat → Int32} {zln : Int32} {zpl : Int32} {zfa : Int32} {aSz : Nat → Int32} {zit : Int32} {zip : Int32} {zic : Int32} {zig : Int32} {M : Nat → Nat → Int64} {r1 : Nat}  (F : Fx p s m args meth c cX2_traceOf 5 RX2 (some .long)) (hA : ∀ q, s.heap.size ≤ q → A q) (hr1 : r1 < 32)  : ∀ (fu : Nat) (ztc : Int32) (aTs : Nat → Int32) (aTn : Nat → Int32) (zoc : Int32) (v2 : Int64) (v4 : Int32) (z : Int64 × Int32 × (Nat → Int32) × (Nat → Int32) × Int32), f_X2_traceOf_L5 ze aOs aOn M r1 fu ztc aTs aTn zoc v2 v4 = some z → Ends p l e (rmOf 2 47) s m args below meth c Q cX2_traceOf G A (some .long) (some (.long z.1)) (kW G q zp ze zf zg zn aG aW aR aN aF lC lS lP lX ++ (oW G q z.2.1 z.2.2.1 z.2.2.2.1 z.2.2.2.2 aOs aOn aTp zln zpl zfa aSz zit zip zic zig M ++ fr)) → ∀ (H : Heap) (locs : List Loc) (ls : Array Slot), Wd G s A (kW G q zp ze zf zg zn aG aW aR aN aF lC lS lP lX ++ (oW G q ztc aTs aTn zoc aOs aOn aTp zln zpl zfa aSz zit zip zic zig M ++ fr)) H locs → lv_has ls 5 [(0, .ref (q 15)), (1, .ref (q (26 + r1))), (2, .long v2), (4, .int v4)] → W p l e (rmOf 2 47) s m args below meth c H locs 0 0 Q (F0 m 5 ls []) := by
  have hx := F.x
  have hb := F.b
  intro fu
  induction fu with
  | zero =>
    intro ztc aTs aTn zoc v2 v4 z h
    cases (h : none = some z)
  | succ fu ih =>
    intro ztc aTs aTn zoc v2 v4 z h hE H locs ls hw hl
    rw [f_X2_traceOf_L5] at h
    refine lv_iload hx hb dX2_traceOf_5 (lv_at hl 3 rfl) ?_
    refine lv_aload_n hx hb dX2_traceOf_7 rfl (lv_at hl 0 rfl) ?_
    refine gf_2_21 F hw dX2_traceOf_8 ?_
    refine gf_2_29 F hw dX2_traceOf_11 ?_
    refine lv_icmp_ge (tgt := 56) hx hb dX2_traceOf_14 (by decide) (fun c1 => ?_) (fun c1 => ?_)
    · replace h := stT c1 h
      refine lv_aload_n hx hb dX2_traceOf_56 rfl (lv_at hl 0 rfl) ?_
      refine lv_lload_n hx hb dX2_traceOf_57 rfl (lv_at hl 2 rfl) ?_
      obtain ⟨z2, hz2, h⟩ := stB h
      refine ctV (av := [.long v2]) (st0 := ([] : List Value)) (st1 := ([.long z2.1] : List Value)) F hw hA (k_X2_negated hz2) kl_2_98 kd_X2_negated rfl ⟨by decide, by decide⟩ 15 rfl rfl hl.1 rfl (Nat.le_of_ble_eq_true rfl) dX2_traceOf_58 rfl (fun H locs hw => ?_)
      obtain rfl := Option.some.inj h
      exact hE H locs _ ls hw dX2_traceOf_61
    · replace h := stF c1 h
      refine lv_lload_n hx hb dX2_traceOf_17 rfl (lv_at hl 2 rfl) ?_
      refine lv_aload_n hx hb dX2_traceOf_18 rfl (lv_at hl 1 rfl) ?_
      refine lv_iload hx hb dX2_traceOf_19 (lv_at hl 3 rfl) ?_
      obtain ⟨g3, h⟩ := stG h
      refine al_row F hw hr1 g3 dX2_traceOf_21 ?_
      obtain ⟨z4, hz4, h⟩ := stB h
      refine ctS (av := [.long v2, .long (M r1 v4.toNatClampNeg)]) (st0 := ([] : List Value)) (st1 := ([.int z4] : List Value)) F hw hA (k_X2_sumFits hz4) kl_2_35 kd_X2_sumFits rfl ⟨by decide, by decide⟩ hl.1 rfl (Nat.le_of_ble_eq_true rfl) dX2_traceOf_22 rfl (fun H locs hw => ?_)
      refine lv_if_ne (tgt := 43) hx hb dX2_traceOf_25 (by decide) (fun c5 => ?_) (fun c5 => ?_)
      · replace h := stF c5 h
        refine lv_lload_n hx hb dX2_traceOf_43 rfl (lv_at hl 2 rfl) ?_
        refine lv_aload_n hx hb dX2_traceOf_44 rfl (lv_at hl 1 rfl) ?_
        refine lv_iload hx hb dX2_traceOf_45 (lv_at hl 3 rfl) ?_
        obtain ⟨g6, h⟩ := stG h
        refine al_row F hw hr1 g6 dX2_traceOf_47 ?_
        refine lv_ladd hx hb dX2_traceOf_48 ?_
        refine lv_lstore_n (lv' := [(2, .long (v2 + (M r1 v4.toNatClampNeg))), (0, .ref (q 15)), (1, .ref (q (26 + r1))), (4, .int v4)]) hx hb dX2_traceOf_49 rfl hl (by decide) rfl (fun ls hl => ?_)
        refine lv_iinc (v := (v4 + 1)) (lv' := [(4, .int (v4 + 1)), (2, .long (v2 + (M r1 v4.toNatClampNeg))), (0, .ref (q 15)), (1, .ref (q (26 + r1)))]) hx hb dX2_traceOf_50 hl (k := 3) rfl rfl (by decide) rfl (fun ls hl => ?_)
        refine lv_goto (tgt := 5) hx hb dX2_traceOf_53 (by decide) ?_
        exact ih _ _ _ _ _ _ z h hE H locs ls hw (lv_sub hl [2, 3, 1, 0] rfl)
      · replace h := stT c5 h
        refine lv_aload_n hx hb dX2_traceOf_28 rfl (lv_at hl 0 rfl) ?_
        refine gf_2_25 F hw dX2_traceOf_29 ?_
        refine lv_iconst (v := 4) hx hb dX2_traceOf_32 (by decide) ?_
        refine lv_iload hx hb dX2_traceOf_33 (lv_at hl 3 rfl) ?_
        obtain ⟨z7, hz7, h⟩ := stB h
        refine ctV (av := [.int 4, .int v4]) (st0 := ([] : List Value)) (st1 := ([.int z7.1] : List Value)) F hw hA (k_X3_report hz7) kl_2_39 kd_X3_report rfl ⟨by decide, by decide⟩ 10 rfl rfl hl.1 rfl (Nat.le_of_ble_eq_true rfl) dX2_traceOf_35 rfl (fun H locs hw => ?_)
        refine lv_pop hx hb dX2_traceOf_38 rfl ?_
        refine lv_ldc2 (v := -9223372036854775808) hx hb F.ow (F.ts _ kc_2_96) dX2_traceOf_39 ?_
        obtain rfl := Option.some.inj h
        exact hE H locs _ ls hw dX2_traceOf_42
def f_X2_traceOf (ze : Int32) (ztc : Int32) (aTs : Nat → Int32) (aTn : Nat → Int32) (zoc : Int32) (aOs : Nat → Int32) (aOn : Nat → Int32) (M : Nat → Nat → Int64) (r1 : Nat) : Option (Int64 × Int32 × (Nat → Int32) × (Nat → Int32) × Int32) :=
  f_X2_traceOf_L5 ze aOs aOn M r1 FU ztc aTs aTn zoc 0 0
set_option maxHeartbeats 4000000 in
set_option maxRecDepth 100000 in
theorem k_X2_traceOf {l : Launch} {G : GG} {q : Nat → Nat} {fr : va_W}  {zp : Int32} {ze : Int32} {zf : Int32} {zg : Int32} {zn : Int32} {aG : Nat → Int32} {aW : Nat → Int32} {aR : Nat → Int32} {aN : Nat → Int32} {aF : Nat → Int32} {lC : Nat → Int64} {lS : Nat → Int64} {lP : Nat → Int64} {lX : Nat → Int64} {ztc : Int32} {aTs : Nat → Int32} {aTn : Nat → Int32} {zoc : Int32} {aOs : Nat → Int32} {aOn : Nat → Int32} {aTp : Nat → Int32} {zln : Int32} {zpl : Int32} {zfa : Int32} {aSz : Nat → Int32} {zit : Int32} {zip : Int32} {zic : Int32} {zig : Int32} {M : Nat → Nat → Int64} {r1 : Nat} {z : Int64 × Int32 × (Nat → Int32) × (Nat → Int32) × Int32} (hr1 : r1 < 32) (h : f_X2_traceOf ze ztc aTs aTn zoc aOs aOn M r1 = some z) : Ct l G yX2_traceOf cX2_traceOf 5 (some .long) 2 47 [.ref (q 15), .ref (q (26 + r1))] (kW G q zp ze zf zg zn aG aW aR aN aF lC lS lP lX ++ (oW G q ztc aTs aTn zoc aOs aOn aTp zln zpl zfa aSz zit zip zic zig M ++ fr)) (some (.long z.1)) (kW G q zp ze zf zg zn aG aW aR aN aF lC lS lP lX ++ (oW G q z.2.1 z.2.2.1 z.2.2.2.1 z.2.2.2.2 aOs aOn aTp zln zpl zfa aSz zit zip zic zig M ++ fr)) := by
  refine Ct.of (by decide +kernel) (Nat.le_of_ble_eq_true rfl) trivial ?_
  intro p e s m args below meth c Q A ls F hw hA hE hl
  have hx := F.x
  have hb := F.b
  unfold f_X2_traceOf at h
  obtain ⟨H, hH⟩ : ∃ H, H = s.heap := ⟨_, rfl⟩
  obtain ⟨locs, hlo⟩ : ∃ locs : List Loc, locs = [] := ⟨_, rfl⟩
  rw [← hH, ← hlo] at hw ⊢
  have hl : lv_has ls 5 [(0, .ref (q 15)), (1, .ref (q (26 + r1)))] := hl
  refine lv_lconst (v := 0) hx hb dX2_traceOf_0 (by decide) ?_
  refine lv_lstore_n (lv' := [(2, .long 0), (0, .ref (q 15)), (1, .ref (q (26 + r1)))]) hx hb dX2_traceOf_1 rfl hl (by decide) rfl (fun ls hl => ?_)
  refine lv_iconst (v := 0) hx hb dX2_traceOf_2 (by decide) ?_
  refine lv_istore (lv' := [(4, .int 0), (2, .long 0), (0, .ref (q 15)), (1, .ref (q (26 + r1)))]) hx hb dX2_traceOf_3 hl (by decide) rfl (fun ls hl => ?_)
  exact w_X2_traceOf_L5 F hA hr1 FU _ _ _ _ _ _ z h hE H locs ls hw (lv_sub hl [2, 3, 1, 0] rfl)
end
