/-! printed by wip/whole/mk.py: the functions that mirror the bytecode, and the contracts over them -/
theorem dX4_put_0 : decode cX4_put 0 = .ok (.iload_n 1, 1) := by decide +kernel
theorem dX4_put_1 : decode cX4_put 1 = .ok (.invokestatic 132, 3) := by decide +kernel
theorem dX4_put_4 : decode cX4_put 4 = .ok (.ifCond .eq 11, 3) := by decide +kernel
theorem dX4_put_7 : decode cX4_put 7 = .ok (.aload_n 0, 1) := by decide +kernel
theorem dX4_put_8 : decode cX4_put 8 = .ok (.iload_n 2, 1) := by decide +kernel
theorem dX4_put_9 : decode cX4_put 9 = .ok (.invokevirtual 103, 3) := by decide +kernel
theorem dX4_put_12 : decode cX4_put 12 = .ok (.ifCond .ne 5, 3) := by decide +kernel
theorem dX4_put_15 : decode cX4_put 15 = .ok (.iconst (-1), 1) := by decide +kernel
theorem dX4_put_16 : decode cX4_put 16 = .ok (.ireturn, 1) := by decide +kernel
theorem dX4_put_17 : decode cX4_put 17 = .ok (.aload_n 0, 1) := by decide +kernel
theorem dX4_put_18 : decode cX4_put 18 = .ok (.getfield 47, 3) := by decide +kernel
theorem dX4_put_21 : decode cX4_put 21 = .ok (.iload_n 1, 1) := by decide +kernel
theorem dX4_put_22 : decode cX4_put 22 = .ok (.aaload, 1) := by decide +kernel
theorem dX4_put_23 : decode cX4_put 23 = .ok (.iload_n 2, 1) := by decide +kernel
theorem dX4_put_24 : decode cX4_put 24 = .ok (.lload_n 3, 1) := by decide +kernel
theorem dX4_put_25 : decode cX4_put 25 = .ok (.lastore, 1) := by decide +kernel
theorem dX4_put_26 : decode cX4_put 26 = .ok (.iconst 1, 1) := by decide +kernel
theorem dX4_put_27 : decode cX4_put 27 = .ok (.ireturn, 1) := by decide +kernel
section
variable {p : Program} {l : Launch} {e : Env} {s : State} {m : MethodId} {args : Array Value} {below : List Frame} {meth : Method} {c : Code} {Q : State → Prop} {G : GG} {A : Nat → Prop} {q : Nat → Nat} {fr : va_W}
def f_X4_put (ze : Int32) (M : Nat → Nat → Int64) (v1 : Int32) (v2 : Int32) (v3 : Int64) : Option (Int32 × (Nat → Nat → Int64)) :=
  (f_X4_isShelf v1).bind fun z1 =>
  if z1 = 0 then
  some ((-1), M)
  else
  (f_X4_isClass ze v2).bind fun z3 =>
  if z3 = 0 then
  some ((-1), M)
  else
  if inb v1 4 then
  if inb v2 (rl (0 + v1.toNatClampNeg)) then
  some (1, (va_up M (0 + v1.toNatClampNeg) (vp_updL (M (0 + v1.toNatClampNeg)) v2.toNatClampNeg v3)))
  else none
  else none
set_option maxHeartbeats 4000000 in
set_option maxRecDepth 100000 in
theorem k_X4_put {l : Launch} {G : GG} {q : Nat → Nat} {fr : va_W}  {zp : Int32} {ze : Int32} {zf : Int32} {zg : Int32} {zn : Int32} {aG : Nat → Int32} {aW : Nat → Int32} {aR : Nat → Int32} {aN : Nat → Int32} {aF : Nat → Int32} {lC : Nat → Int64} {lS : Nat → Int64} {lP : Nat → Int64} {lX : Nat → Int64} {ztc : Int32} {aTs : Nat → Int32} {aTn : Nat → Int32} {zoc : Int32} {aOs : Nat → Int32} {aOn : Nat → Int32} {aTp : Nat → Int32} {zln : Int32} {zpl : Int32} {zfa : Int32} {aSz : Nat → Int32} {zit : Int32} {zip : Int32} {zic : Int32} {zig : Int32} {M : Nat → Nat → Int64} {v1 : Int32} {v2 : Int32} {v3 : Int64} {z : Int32 × (Nat → Nat → Int64)}  (h : f_X4_put ze M v1 v2 v3 = some z) : Ct l G yX4_put cX4_put 5 (some .int) 1 21 [.ref (q 21), .int v1, .int v2, .long v3] (kW G q zp ze zf zg zn aG aW aR aN aF lC lS lP lX ++ (oW G q ztc aTs aTn zoc aOs aOn aTp zln zpl zfa aSz zit zip zic zig M ++ fr)) (some (.int z.1)) (kW G q zp ze zf zg zn aG aW aR aN aF lC lS lP lX ++ (oW G q ztc aTs aTn zoc aOs aOn aTp zln zpl zfa aSz zit zip zic zig z.2 ++ fr)) := by
  refine Ct.of (by decide +kernel) (Nat.le_of_ble_eq_true rfl) trivial ?_
  intro p e s m args below meth c Q A ls F hw hA hE hl
  have hx := F.x
  have hb := F.b
  unfold f_X4_put at h
  obtain ⟨H, hH⟩ : ∃ H, H = s.heap := ⟨_, rfl⟩
  obtain ⟨locs, hlo⟩ : ∃ locs : List Loc, locs = [] := ⟨_, rfl⟩
  rw [← hH, ← hlo] at hw ⊢
  have hl : lv_has ls 5 [(0, .ref (q 21)), (1, .int v1), (2, .int v2), (3, .long v3)] := hl
  refine lv_iload_n hx hb dX4_put_0 rfl (lv_at hl 1 rfl) ?_
  obtain ⟨z1, hz1, h⟩ := stB h
  refine ctS (av := [.int v1]) (st0 := ([] : List Value)) (st1 := ([.int z1] : List Value)) F hw hA (k_X4_isShelf hz1) kl_4_132 kd_X4_isShelf rfl ⟨by decide, by decide⟩ hl.1 rfl (Nat.le_of_ble_eq_true rfl) dX4_put_1 rfl (fun H locs hw => ?_)
  refine lv_if_eq (tgt := 15) hx hb dX4_put_4 (by decide) (fun c2 => ?_) (fun c2 => ?_)
  · replace h := stT c2 h
    refine lv_iconst (v := -1) hx hb dX4_put_15 (by decide) ?_
    obtain rfl := Option.some.inj h
    exact hE H locs _ ls hw dX4_put_16
  · replace h := stF c2 h
    refine lv_aload_n hx hb dX4_put_7 rfl (lv_at hl 0 rfl) ?_
    refine lv_iload_n hx hb dX4_put_8 rfl (lv_at hl 2 rfl) ?_
    obtain ⟨z3, hz3, h⟩ := stB h
    refine ctV (av := [.int v2]) (st0 := ([] : List Value)) (st1 := ([.int z3] : List Value)) F hw hA (k_X4_isClass hz3) kl_4_103 kd_X4_isClass rfl ⟨by decide, by decide⟩ 21 rfl rfl hl.1 rfl (Nat.le_of_ble_eq_true rfl) dX4_put_9 rfl (fun H locs hw => ?_)
    refine lv_if_ne (tgt := 17) hx hb dX4_put_12 (by decide) (fun c4 => ?_) (fun c4 => ?_)
    · replace h := stF c4 h
      refine lv_aload_n hx hb dX4_put_17 rfl (lv_at hl 0 rfl) ?_
      refine gf_4_47 F hw dX4_put_18 ?_
      refine lv_iload_n hx hb dX4_put_21 rfl (lv_at hl 1 rfl) ?_
      obtain ⟨g5, h⟩ := stG h
      refine aq_c22 F hw g5 dX4_put_22 ?_
      refine lv_iload_n hx hb dX4_put_23 rfl (lv_at hl 2 rfl) ?_
      refine lv_lload_n hx hb dX4_put_24 rfl (lv_at hl 3 rfl) ?_
      obtain ⟨g6, h⟩ := stG h
      refine as_row F hw (Nat.lt_of_lt_of_le (Nat.add_lt_add_left (inb_lt g5) 0) (by decide)) g6 dX4_put_25 (fun H locs hw => ?_)
      refine lv_iconst (v := 1) hx hb dX4_put_26 (by decide) ?_
      obtain rfl := Option.some.inj h
      exact hE H locs _ ls hw dX4_put_27
    · replace h := stT c4 h
      refine lv_iconst (v := -1) hx hb dX4_put_15 (by decide) ?_
      obtain rfl := Option.some.inj h
      exact hE H locs _ ls hw dX4_put_16
end
theorem dX4_of_0 : decode cX4_of 0 = .ok (.iload_n 1, 1) := by decide +kernel
theorem dX4_of_1 : decode cX4_of 1 = .ok (.invokestatic 132, 3) := by decide +kernel
theorem dX4_of_4 : decode cX4_of 4 = .ok (.ifCond .eq 11, 3) := by decide +kernel
theorem dX4_of_7 : decode cX4_of 7 = .ok (.aload_n 0, 1) := by decide +kernel
theorem dX4_of_8 : decode cX4_of 8 = .ok (.iload_n 2, 1) := by decide +kernel
theorem dX4_of_9 : decode cX4_of 9 = .ok (.invokevirtual 103, 3) := by decide +kernel
theorem dX4_of_12 : decode cX4_of 12 = .ok (.ifCond .ne 7, 3) := by decide +kernel
theorem dX4_of_15 : decode cX4_of 15 = .ok (.ldc2_w 126, 3) := by decide +kernel
theorem dX4_of_18 : decode cX4_of 18 = .ok (.lreturn, 1) := by decide +kernel
theorem dX4_of_19 : decode cX4_of 19 = .ok (.aload_n 0, 1) := by decide +kernel
theorem dX4_of_20 : decode cX4_of 20 = .ok (.getfield 47, 3) := by decide +kernel
theorem dX4_of_23 : decode cX4_of 23 = .ok (.iload_n 1, 1) := by decide +kernel
theorem dX4_of_24 : decode cX4_of 24 = .ok (.aaload, 1) := by decide +kernel
theorem dX4_of_25 : decode cX4_of 25 = .ok (.iload_n 2, 1) := by decide +kernel
theorem dX4_of_26 : decode cX4_of 26 = .ok (.laload, 1) := by decide +kernel
theorem dX4_of_27 : decode cX4_of 27 = .ok (.lreturn, 1) := by decide +kernel
section
variable {p : Program} {l : Launch} {e : Env} {s : State} {m : MethodId} {args : Array Value} {below : List Frame} {meth : Method} {c : Code} {Q : State → Prop} {G : GG} {A : Nat → Prop} {q : Nat → Nat} {fr : va_W}
def f_X4_of (ze : Int32) (M : Nat → Nat → Int64) (v1 : Int32) (v2 : Int32) : Option (Int64) :=
  (f_X4_isShelf v1).bind fun z1 =>
  if z1 = 0 then
  some (-9223372036854775808)
  else
  (f_X4_isClass ze v2).bind fun z3 =>
  if z3 = 0 then
  some (-9223372036854775808)
  else
  if inb v1 4 then
  if inb v2 (rl (0 + v1.toNatClampNeg)) then
  some (M (0 + v1.toNatClampNeg) v2.toNatClampNeg)
  else none
  else none
set_option maxHeartbeats 4000000 in
set_option maxRecDepth 100000 in
theorem k_X4_of {l : Launch} {G : GG} {q : Nat → Nat} {fr : va_W}  {zp : Int32} {ze : Int32} {zf : Int32} {zg : Int32} {zn : Int32} {aG : Nat → Int32} {aW : Nat → Int32} {aR : Nat → Int32} {aN : Nat → Int32} {aF : Nat → Int32} {lC : Nat → Int64} {lS : Nat → Int64} {lP : Nat → Int64} {lX : Nat → Int64} {ztc : Int32} {aTs : Nat → Int32} {aTn : Nat → Int32} {zoc : Int32} {aOs : Nat → Int32} {aOn : Nat → Int32} {aTp : Nat → Int32} {zln : Int32} {zpl : Int32} {zfa : Int32} {aSz : Nat → Int32} {zit : Int32} {zip : Int32} {zic : Int32} {zig : Int32} {M : Nat → Nat → Int64} {v1 : Int32} {v2 : Int32} {z : Int64}  (h : f_X4_of ze M v1 v2 = some z) : Ct l G yX4_of cX4_of 3 (some .long) 1 21 [.ref (q 21), .int v1, .int v2] (kW G q zp ze zf zg zn aG aW aR aN aF lC lS lP lX ++ (oW G q ztc aTs aTn zoc aOs aOn aTp zln zpl zfa aSz zit zip zic zig M ++ fr)) (some (.long z)) (kW G q zp ze zf zg zn aG aW aR aN aF lC lS lP lX ++ (oW G q ztc aTs aTn zoc aOs aOn aTp zln zpl zfa aSz zit zip zic zig M ++ fr)) := by
  refine Ct.of (by decide +kernel) (Nat.le_of_ble_eq_true rfl) trivial ?_
  intro p e s m args below meth c Q A ls F hw hA hE hl
  have hx := F.x
  have hb := F.b
  unfold f_X4_of at h
  obtain ⟨H, hH⟩ : ∃ H, H = s.heap := ⟨_, rfl⟩
  obtain ⟨locs, hlo⟩ : ∃ locs : List Loc, locs = [] := ⟨_, rfl⟩
  rw [← hH, ← hlo] at hw ⊢
  have hl : lv_has ls 3 [(0, .ref (q 21)), (1, .int v1), (2, .int v2)] := hl
  refine lv_iload_n hx hb dX4_of_0 rfl (lv_at hl 1 rfl) ?_
  obtain ⟨z1, hz1, h⟩ := stB h
  refine ctS (av := [.int v1]) (st0 := ([] : List Value)) (st1 := ([.int z1] : List Value)) F hw hA (k_X4_isShelf hz1) kl_4_132 kd_X4_isShelf rfl ⟨by decide, by decide⟩ hl.1 rfl (Nat.le_of_ble_eq_true rfl) dX4_of_1 rfl (fun H locs hw => ?_)
  refine lv_if_eq (tgt := 15) hx hb dX4_of_4 (by decide) (fun c2 => ?_) (fun c2 => ?_)
  · replace h := stT c2 h
    refine lv_ldc2 (v := -9223372036854775808) hx hb F.ow (F.ts _ kc_4_126) dX4_of_15 ?_
    obtain rfl := Option.some.inj h
    exact hE H locs _ ls hw dX4_of_18
  · replace h := stF c2 h
    refine lv_aload_n hx hb dX4_of_7 rfl (lv_at hl 0 rfl) ?_
    refine lv_iload_n hx hb dX4_of_8 rfl (lv_at hl 2 rfl) ?_
    obtain ⟨z3, hz3, h⟩ := stB h
    refine ctV (av := [.int v2]) (st0 := ([] : List Value)) (st1 := ([.int z3] : List Value)) F hw hA (k_X4_isClass hz3) kl_4_103 kd_X4_isClass rfl ⟨by decide, by decide⟩ 21 rfl rfl hl.1 rfl (Nat.le_of_ble_eq_true rfl) dX4_of_9 rfl (fun H locs hw => ?_)
    refine lv_if_ne (tgt := 19) hx hb dX4_of_12 (by decide) (fun c4 => ?_) (fun c4 => ?_)
    · replace h := stF c4 h
      refine lv_aload_n hx hb dX4_of_19 rfl (lv_at hl 0 rfl) ?_
      refine gf_4_47 F hw dX4_of_20 ?_
      refine lv_iload_n hx hb dX4_of_23 rfl (lv_at hl 1 rfl) ?_
      obtain ⟨g5, h⟩ := stG h
      refine aq_c22 F hw g5 dX4_of_24 ?_
      refine lv_iload_n hx hb dX4_of_25 rfl (lv_at hl 2 rfl) ?_
      obtain ⟨g6, h⟩ := stG h
      refine al_row F hw (Nat.lt_of_lt_of_le (Nat.add_lt_add_left (inb_lt g5) 0) (by decide)) g6 dX4_of_26 ?_
      obtain rfl := Option.some.inj h
      exact hE H locs _ ls hw dX4_of_27
    · replace h := stT c4 h
      refine lv_ldc2 (v := -9223372036854775808) hx hb F.ow (F.ts _ kc_4_126) dX4_of_15 ?_
      obtain rfl := Option.some.inj h
      exact hE H locs _ ls hw dX4_of_18
end
theorem dX4_whole_0 : decode cX4_whole 0 = .ok (.iload_n 1, 1) := by decide +kernel
theorem dX4_whole_1 : decode cX4_whole 1 = .ok (.invokestatic 132, 3) := by decide +kernel
theorem dX4_whole_4 : decode cX4_whole 4 = .ok (.ifCond .ne 5, 3) := by decide +kernel
theorem dX4_whole_7 : decode cX4_whole 7 = .ok (.iconst (-1), 1) := by decide +kernel
theorem dX4_whole_8 : decode cX4_whole 8 = .ok (.ireturn, 1) := by decide +kernel
theorem dX4_whole_9 : decode cX4_whole 9 = .ok (.aload_n 0, 1) := by decide +kernel
theorem dX4_whole_10 : decode cX4_whole 10 = .ok (.getfield 47, 3) := by decide +kernel
theorem dX4_whole_13 : decode cX4_whole 13 = .ok (.iload_n 1, 1) := by decide +kernel
theorem dX4_whole_14 : decode cX4_whole 14 = .ok (.aaload, 1) := by decide +kernel
theorem dX4_whole_15 : decode cX4_whole 15 = .ok (.iload_n 2, 1) := by decide +kernel
theorem dX4_whole_16 : decode cX4_whole 16 = .ok (.invokestatic 71, 3) := by decide +kernel
theorem dX4_whole_19 : decode cX4_whole 19 = .ok (.iconst 1, 1) := by decide +kernel
theorem dX4_whole_20 : decode cX4_whole 20 = .ok (.ireturn, 1) := by decide +kernel
section
variable {p : Program} {l : Launch} {e : Env} {s : State} {m : MethodId} {args : Array Value} {below : List Frame} {meth : Method} {c : Code} {Q : State → Prop} {G : GG} {A : Nat → Prop} {q : Nat → Nat} {fr : va_W}
def f_X4_whole (M : Nat → Nat → Int64) (v1 : Int32) (v2 : Int32) : Option (Int32 × (Nat → Nat → Int64)) :=
  (f_X4_isShelf v1).bind fun z1 =>
  if z1 = 0 then
  some ((-1), M)
  else
  if inb v1 4 then
  (f_X4_setWhole M (0 + v1.toNatClampNeg) v2).bind fun z4 =>
  some (1, z4)
  else none
set_option maxHeartbeats 4000000 in
set_option maxRecDepth 100000 in
theorem k_X4_whole {l : Launch} {G : GG} {q : Nat → Nat} {fr : va_W}  {zp : Int32} {ze : Int32} {zf : Int32} {zg : Int32} {zn : Int32} {aG : Nat → Int32} {aW : Nat → Int32} {aR : Nat → Int32} {aN : Nat → Int32} {aF : Nat → Int32} {lC : Nat → Int64} {lS : Nat → Int64} {lP : Nat → Int64} {lX : Nat → Int64} {ztc : Int32} {aTs : Nat → Int32} {aTn : Nat → Int32} {zoc : Int32} {aOs : Nat → Int32} {aOn : Nat → Int32} {aTp : Nat → Int32} {zln : Int32} {zpl : Int32} {zfa : Int32} {aSz : Nat → Int32} {zit : Int32} {zip : Int32} {zic : Int32} {zig : Int32} {M : Nat → Nat → Int64} {v1 : Int32} {v2 : Int32} {z : Int32 × (Nat → Nat → Int64)}  (h : f_X4_whole M v1 v2 = some z) : Ct l G yX4_whole cX4_whole 3 (some .int) 1 22 [.ref (q 21), .int v1, .int v2] (kW G q zp ze zf zg zn aG aW aR aN aF lC lS lP lX ++ (oW G q ztc aTs aTn zoc aOs aOn aTp zln zpl zfa aSz zit zip zic zig M ++ fr)) (some (.int z.1)) (kW G q zp ze zf zg zn aG aW aR aN aF lC lS lP lX ++ (oW G q ztc aTs aTn zoc aOs aOn aTp zln zpl zfa aSz zit zip zic zig z.2 ++ fr)) := by
  refine Ct.of (by decide +kernel) (Nat.le_of_ble_eq_true rfl) trivial ?_
  intro p e s m args below meth c Q A ls F hw hA hE hl
  have hx := F.x
  have hb := F.b
  unfold f_X4_whole at h
  obtain ⟨H, hH⟩ : ∃ H, H = s.heap := ⟨_, rfl⟩
  obtain ⟨locs, hlo⟩ : ∃ locs : List Loc, locs = [] := ⟨_, rfl⟩
  rw [← hH, ← hlo] at hw ⊢
  have hl : lv_has ls 3 [(0, .ref (q 21)), (1, .int v1), (2, .int v2)] := hl
  refine lv_iload_n hx hb dX4_whole_0 rfl (lv_at hl 1 rfl) ?_
  obtain ⟨z1, hz1, h⟩ := stB h
  refine ctS (av := [.int v1]) (st0 := ([] : List Value)) (st1 := ([.int z1] : List Value)) F hw hA (k_X4_isShelf hz1) kl_4_132 kd_X4_isShelf rfl ⟨by decide, by decide⟩ hl.1 rfl (Nat.le_of_ble_eq_true rfl) dX4_whole_1 rfl (fun H locs hw => ?_)
  refine lv_if_ne (tgt := 9) hx hb dX4_whole_4 (by decide) (fun c2 => ?_) (fun c2 => ?_)
  · replace h := stF c2 h
    refine lv_aload_n hx hb dX4_whole_9 rfl (lv_at hl 0 rfl) ?_
    refine gf_4_47 F hw dX4_whole_10 ?_
    refine lv_iload_n hx hb dX4_whole_13 rfl (lv_at hl 1 rfl) ?_
    obtain ⟨g3, h⟩ := stG h
    refine aq_c22 F hw g3 dX4_whole_14 ?_
    refine lv_iload_n hx hb dX4_whole_15 rfl (lv_at hl 2 rfl) ?_
    obtain ⟨z4, hz4, h⟩ := stB h
    refine ctS (av := [.ref (q (26 + (0 + v1.toNatClampNeg))), .int v2]) (st0 := ([] : List Value)) (st1 := ([] : List Value)) F hw hA (k_X4_setWhole (Nat.lt_of_lt_of_le (Nat.add_lt_add_left (inb_lt g3) 0) (by decide)) hz4) kl_4_71 kd_X4_setWhole rfl ⟨by decide, by decide⟩ hl.1 rfl (Nat.le_of_ble_eq_true rfl) dX4_whole_16 rfl (fun H locs hw => ?_)
    refine lv_iconst (v := 1) hx hb dX4_whole_19 (by decide) ?_
    obtain rfl := Option.some.inj h
    exact hE H locs _ ls hw dX4_whole_20
  · replace h := stT c2 h
    refine lv_iconst (v := -1) hx hb dX4_whole_7 (by decide) ?_
    obtain rfl := Option.some.inj h
    exact hE H locs _ ls hw dX4_whole_8
end
theorem dX4_period_0 : decode cX4_period 0 = .ok (.iload_n 1, 1) := by decide +kernel
theorem dX4_period_1 : decode cX4_period 1 = .ok (.invokestatic 132, 3) := by decide +kernel
theorem dX4_period_4 : decode cX4_period 4 = .ok (.ifCond .eq 11, 3) := by decide +kernel
theorem dX4_period_7 : decode cX4_period 7 = .ok (.aload_n 0, 1) := by decide +kernel
theorem dX4_period_8 : decode cX4_period 8 = .ok (.iload_n 2, 1) := by decide +kernel
theorem dX4_period_9 : decode cX4_period 9 = .ok (.invokevirtual 103, 3) := by decide +kernel
theorem dX4_period_12 : decode cX4_period 12 = .ok (.ifCond .ne 5, 3) := by decide +kernel
theorem dX4_period_15 : decode cX4_period 15 = .ok (.iconst (-1), 1) := by decide +kernel
theorem dX4_period_16 : decode cX4_period 16 = .ok (.ireturn, 1) := by decide +kernel
theorem dX4_period_17 : decode cX4_period 17 = .ok (.aload_n 0, 1) := by decide +kernel
theorem dX4_period_18 : decode cX4_period 18 = .ok (.getfield 47, 3) := by decide +kernel
theorem dX4_period_21 : decode cX4_period 21 = .ok (.iload_n 1, 1) := by decide +kernel
theorem dX4_period_22 : decode cX4_period 22 = .ok (.aaload, 1) := by decide +kernel
theorem dX4_period_23 : decode cX4_period 23 = .ok (.iload_n 2, 1) := by decide +kernel
theorem dX4_period_24 : decode cX4_period 24 = .ok (.invokestatic 135, 3) := by decide +kernel
theorem dX4_period_27 : decode cX4_period 27 = .ok (.iconst 1, 1) := by decide +kernel
theorem dX4_period_28 : decode cX4_period 28 = .ok (.ireturn, 1) := by decide +kernel
section
variable {p : Program} {l : Launch} {e : Env} {s : State} {m : MethodId} {args : Array Value} {below : List Frame} {meth : Method} {c : Code} {Q : State → Prop} {G : GG} {A : Nat → Prop} {q : Nat → Nat} {fr : va_W}
def f_X4_period (ze : Int32) (M : Nat → Nat → Int64) (v1 : Int32) (v2 : Int32) : Option (Int32 × (Nat → Nat → Int64)) :=
  (f_X4_isShelf v1).bind fun z1 =>
  if z1 = 0 then
  some ((-1), M)
  else
  (f_X4_isClass ze v2).bind fun z3 =>
  if z3 = 0 then
  some ((-1), M)
  else
  if inb v1 4 then
  (f_X4_setPeriod M (0 + v1.toNatClampNeg) v2).bind fun z6 =>
  some (1, z6)
  else none
set_option maxHeartbeats 4000000 in
set_option maxRecDepth 100000 in
theorem k_X4_period {l : Launch} {G : GG} {q : Nat → Nat} {fr : va_W}  {zp : Int32} {ze : Int32} {zf : Int32} {zg : Int32} {zn : Int32} {aG : Nat → Int32} {aW : Nat → Int32} {aR : Nat → Int32} {aN : Nat → Int32} {aF : Nat → Int32} {lC : Nat → Int64} {lS : Nat → Int64} {lP : Nat → Int64} {lX : Nat → Int64} {ztc : Int32} {aTs : Nat → Int32} {aTn : Nat → Int32} {zoc : Int32} {aOs : Nat → Int32} {aOn : Nat → Int32} {aTp : Nat → Int32} {zln : Int32} {zpl : Int32} {zfa : Int32} {aSz : Nat → Int32} {zit : Int32} {zip : Int32} {zic : Int32} {zig : Int32} {M : Nat → Nat → Int64} {v1 : Int32} {v2 : Int32} {z : Int32 × (Nat → Nat → Int64)}  (h : f_X4_period ze M v1 v2 = some z) : Ct l G yX4_period cX4_period 3 (some .int) 2 43 [.ref (q 21), .int v1, .int v2] (kW G q zp ze zf zg zn aG aW aR aN aF lC lS lP lX ++ (oW G q ztc aTs aTn zoc aOs aOn aTp zln zpl zfa aSz zit zip zic zig M ++ fr)) (some (.int z.1)) (kW G q zp ze zf zg zn aG aW aR aN aF lC lS lP lX ++ (oW G q ztc aTs aTn zoc aOs aOn aTp zln zpl zfa aSz zit zip zic zig z.2 ++ fr)) := by
  refine Ct.of (by decide +kernel) (Nat.le_of_ble_eq_true rfl) trivial ?_
  intro p e s m args below meth c Q A ls F hw hA hE hl
  have hx := F.x
  have hb := F.b
  unfold f_X4_period at h
  obtain ⟨H, hH⟩ : ∃ H, H = s.heap := ⟨_, rfl⟩
  obtain ⟨locs, hlo⟩ : ∃ locs : List Loc, locs = [] := ⟨_, rfl⟩
  rw [← hH, ← hlo] at hw ⊢
  have hl : lv_has ls 3 [(0, .ref (q 21)), (1, .int v1), (2, .int v2)] := hl
  refine lv_iload_n hx hb dX4_period_0 rfl (lv_at hl 1 rfl) ?_
  obtain ⟨z1, hz1, h⟩ := stB h
  refine ctS (av := [.int v1]) (st0 := ([] : List Value)) (st1 := ([.int z1] : List Value)) F hw hA (k_X4_isShelf hz1) kl_4_132 kd_X4_isShelf rfl ⟨by decide, by decide⟩ hl.1 rfl (Nat.le_of_ble_eq_true rfl) dX4_period_1 rfl (fun H locs hw => ?_)
  refine lv_if_eq (tgt := 15) hx hb dX4_period_4 (by decide) (fun c2 => ?_) (fun c2 => ?_)
  · replace h := stT c2 h
    refine lv_iconst (v := -1) hx hb dX4_period_15 (by decide) ?_
    obtain rfl := Option.some.inj h
    exact hE H locs _ ls hw dX4_period_16
  · replace h := stF c2 h
    refine lv_aload_n hx hb dX4_period_7 rfl (lv_at hl 0 rfl) ?_
    refine lv_iload_n hx hb dX4_period_8 rfl (lv_at hl 2 rfl) ?_
    obtain ⟨z3, hz3, h⟩ := stB h
    refine ctV (av := [.int v2]) (st0 := ([] : List Value)) (st1 := ([.int z3] : List Value)) F hw hA (k_X4_isClass hz3) kl_4_103 kd_X4_isClass rfl ⟨by decide, by decide⟩ 21 rfl rfl hl.1 rfl (Nat.le_of_ble_eq_true rfl) dX4_period_9 rfl (fun H locs hw => ?_)
    refine lv_if_ne (tgt := 17) hx hb dX4_period_12 (by decide) (fun c4 => ?_) (fun c4 => ?_)
    · replace h := stF c4 h
      refine lv_aload_n hx hb dX4_period_17 rfl (lv_at hl 0 rfl) ?_
      refine gf_4_47 F hw dX4_period_18 ?_
      refine lv_iload_n hx hb dX4_period_21 rfl (lv_at hl 1 rfl) ?_
      obtain ⟨g5, h⟩ := stG h
      refine aq_c22 F hw g5 dX4_period_22 ?_
      refine lv_iload_n hx hb dX4_period_23 rfl (lv_at hl 2 rfl) ?_
      obtain ⟨z6, hz6, h⟩ := stB h
      refine ctS (av := [.ref (q (26 + (0 + v1.toNatClampNeg))), .int v2]) (st0 := ([] : List Value)) (st1 := ([] : List Value)) F hw hA (k_X4_setPeriod (Nat.lt_of_lt_of_le (Nat.add_lt_add_left (inb_lt g5) 0) (by decide)) hz6) kl_4_135 kd_X4_setPeriod rfl ⟨by decide, by decide⟩ hl.1 rfl (Nat.le_of_ble_eq_true rfl) dX4_period_24 rfl (fun H locs hw => ?_)
      refine lv_iconst (v := 1) hx hb dX4_period_27 (by decide) ?_
      obtain rfl := Option.some.inj h
      exact hE H locs _ ls hw dX4_period_28
    · replace h := stT c4 h
      refine lv_iconst (v := -1) hx hb dX4_period_15 (by decide) ?_
      obtain rfl := Option.some.inj h
      exact hE H locs _ ls hw dX4_period_16
end
theorem dX4_add_0 : decode cX4_add 0 = .ok (.iload_n 1, 1) := by decide +kernel
theorem dX4_add_1 : decode cX4_add 1 = .ok (.invokestatic 132, 3) := by decide +kernel
theorem dX4_add_4 : decode cX4_add 4 = .ok (.ifCond .eq 17, 3) := by decide +kernel
theorem dX4_add_7 : decode cX4_add 7 = .ok (.iload_n 2, 1) := by decide +kernel
theorem dX4_add_8 : decode cX4_add 8 = .ok (.invokestatic 132, 3) := by decide +kernel
theorem dX4_add_11 : decode cX4_add 11 = .ok (.ifCond .eq 10, 3) := by decide +kernel
theorem dX4_add_14 : decode cX4_add 14 = .ok (.iload_n 3, 1) := by decide +kernel
theorem dX4_add_15 : decode cX4_add 15 = .ok (.invokestatic 132, 3) := by decide +kernel
theorem dX4_add_18 : decode cX4_add 18 = .ok (.ifCond .ne 5, 3) := by decide +kernel
theorem dX4_add_21 : decode cX4_add 21 = .ok (.iconst (-1), 1) := by decide +kernel
theorem dX4_add_22 : decode cX4_add 22 = .ok (.ireturn, 1) := by decide +kernel
theorem dX4_add_23 : decode cX4_add 23 = .ok (.aload_n 0, 1) := by decide +kernel
theorem dX4_add_24 : decode cX4_add 24 = .ok (.getfield 32, 3) := by decide +kernel
theorem dX4_add_27 : decode cX4_add 27 = .ok (.aload_n 0, 1) := by decide +kernel
theorem dX4_add_28 : decode cX4_add 28 = .ok (.getfield 47, 3) := by decide +kernel
theorem dX4_add_31 : decode cX4_add 31 = .ok (.iload_n 1, 1) := by decide +kernel
theorem dX4_add_32 : decode cX4_add 32 = .ok (.aaload, 1) := by decide +kernel
theorem dX4_add_33 : decode cX4_add 33 = .ok (.aload_n 0, 1) := by decide +kernel
theorem dX4_add_34 : decode cX4_add 34 = .ok (.getfield 47, 3) := by decide +kernel
theorem dX4_add_37 : decode cX4_add 37 = .ok (.iload_n 2, 1) := by decide +kernel
theorem dX4_add_38 : decode cX4_add 38 = .ok (.aaload, 1) := by decide +kernel
theorem dX4_add_39 : decode cX4_add 39 = .ok (.aload_n 0, 1) := by decide +kernel
theorem dX4_add_40 : decode cX4_add 40 = .ok (.getfield 47, 3) := by decide +kernel
theorem dX4_add_43 : decode cX4_add 43 = .ok (.iload_n 3, 1) := by decide +kernel
theorem dX4_add_44 : decode cX4_add 44 = .ok (.aaload, 1) := by decide +kernel
theorem dX4_add_45 : decode cX4_add 45 = .ok (.invokevirtual 138, 3) := by decide +kernel
theorem dX4_add_48 : decode cX4_add 48 = .ok (.ifCond .eq 7, 3) := by decide +kernel
theorem dX4_add_51 : decode cX4_add 51 = .ok (.iconst 1, 1) := by decide +kernel
theorem dX4_add_52 : decode cX4_add 52 = .ok (.goto 5, 3) := by decide +kernel
theorem dX4_add_55 : decode cX4_add 55 = .ok (.bipush (-9), 2) := by decide +kernel
theorem dX4_add_57 : decode cX4_add 57 = .ok (.ireturn, 1) := by decide +kernel
section
variable {p : Program} {l : Launch} {e : Env} {s : State} {m : MethodId} {args : Array Value} {below : List Frame} {meth : Method} {c : Code} {Q : State → Prop} {G : GG} {A : Nat → Prop} {q : Nat → Nat} {fr : va_W}
def f_X4_add (ze : Int32) (ztc : Int32) (aTs : Nat → Int32) (aTn : Nat → Int32) (zoc : Int32) (aOs : Nat → Int32) (aOn : Nat → Int32) (M : Nat → Nat → Int64) (v1 : Int32) (v2 : Int32) (v3 : Int32) : Option (Int32 × Int32 × (Nat → Int32) × (Nat → Int32) × Int32 × (Nat → Nat → Int64)) :=
  (f_X4_isShelf v1).bind fun z1 =>
  if z1 = 0 then
  some ((-1), ztc, aTs, aTn, zoc, M)
  else
  (f_X4_isShelf v2).bind fun z3 =>
  if z3 = 0 then
  some ((-1), ztc, aTs, aTn, zoc, M)
  else
  (f_X4_isShelf v3).bind fun z5 =>
  if z5 = 0 then
  some ((-1), ztc, aTs, aTn, zoc, M)
  else
  if inb v1 4 then
  if inb v2 4 then
  if inb v3 4 then
  (f_X2_sum ze ztc aTs aTn zoc aOs aOn M (0 + v1.toNatClampNeg) (0 + v2.toNatClampNeg) (0 + v3.toNatClampNeg)).bind fun z10 =>
  if z10.1 = 0 then
  some ((-9), z10.2.1, z10.2.2.1, z10.2.2.2.1, z10.2.2.2.2.1, z10.2.2.2.2.2)
  else
  some (1, z10.2.1, z10.2.2.1, z10.2.2.2.1, z10.2.2.2.2.1, z10.2.2.2.2.2)
  else none
  else none
  else none
set_option maxHeartbeats 4000000 in
set_option maxRecDepth 100000 in
theorem k_X4_add {l : Launch} {G : GG} {q : Nat → Nat} {fr : va_W}  {zp : Int32} {ze : Int32} {zf : Int32} {zg : Int32} {zn : Int32} {aG : Nat → Int32} {aW : Nat → Int32} {aR : Nat → Int32} {aN : Nat → Int32} {aF : Nat → Int32} {lC : Nat → Int64} {lS : Nat → Int64} {lP : Nat → Int64} {lX : Nat → Int64} {ztc : Int32} {aTs : Nat → Int32} {aTn : Nat → Int32} {zoc : Int32} {aOs : Nat → Int32} {aOn : Nat → Int32} {aTp : Nat → Int32} {zln : Int32} {zpl : Int32} {zfa : Int32} {aSz : Nat → Int32} {zit : Int32} {zip : Int32} {zic : Int32} {zig : Int32} {M : Nat → Nat → Int64} {v1 : Int32} {v2 : Int32} {v3 : Int32} {z : Int32 × Int32 × (Nat → Int32) × (Nat → Int32) × Int32 × (Nat → Nat → Int64)}  (h : f_X4_add ze ztc aTs aTn zoc aOs aOn M v1 v2 v3 = some z) : Ct l G yX4_add cX4_add 4 (some .int) 2 49 [.ref (q 21), .int v1, .int v2, .int v3] (kW G q zp ze zf zg zn aG aW aR aN aF lC lS lP lX ++ (oW G q ztc aTs aTn zoc aOs aOn aTp zln zpl zfa aSz zit zip zic zig M ++ fr)) (some (.int z.1)) (kW G q zp ze zf zg zn aG aW aR aN aF lC lS lP lX ++ (oW G q z.2.1 z.2.2.1 z.2.2.2.1 z.2.2.2.2.1 aOs aOn aTp zln zpl zfa aSz zit zip zic zig z.2.2.2.2.2 ++ fr)) := by
  refine Ct.of (by decide +kernel) (Nat.le_of_ble_eq_true rfl) trivial ?_
  intro p e s m args below meth c Q A ls F hw hA hE hl
  have hx := F.x
  have hb := F.b
  unfold f_X4_add at h
  obtain ⟨H, hH⟩ : ∃ H, H = s.heap := ⟨_, rfl⟩
  obtain ⟨locs, hlo⟩ : ∃ locs : List Loc, locs = [] := ⟨_, rfl⟩
  rw [← hH, ← hlo] at hw ⊢
  have hl : lv_has ls 4 [(0, .ref (q 21)), (1, .int v1), (2, .int v2), (3, .int v3)] := hl
  refine lv_iload_n hx hb dX4_add_0 rfl (lv_at hl 1 rfl) ?_
  obtain ⟨z1, hz1, h⟩ := stB h
  refine ctS (av := [.int v1]) (st0 := ([] : List Value)) (st1 := ([.int z1] : List Value)) F hw hA (k_X4_isShelf hz1) kl_4_132 kd_X4_isShelf rfl ⟨by decide, by decide⟩ hl.1 rfl (Nat.le_of_ble_eq_true rfl) dX4_add_1 rfl (fun H locs hw => ?_)
  refine lv_if_eq (tgt := 21) hx hb dX4_add_4 (by decide) (fun c2 => ?_) (fun c2 => ?_)
  · replace h := stT c2 h
    refine lv_iconst (v := -1) hx hb dX4_add_21 (by decide) ?_
    obtain rfl := Option.some.inj h
    exact hE H locs _ ls hw dX4_add_22
  · replace h := stF c2 h
    refine lv_iload_n hx hb dX4_add_7 rfl (lv_at hl 2 rfl) ?_
    obtain ⟨z3, hz3, h⟩ := stB h
    refine ctS (av := [.int v2]) (st0 := ([] : List Value)) (st1 := ([.int z3] : List Value)) F hw hA (k_X4_isShelf hz3) kl_4_132 kd_X4_isShelf rfl ⟨by decide, by decide⟩ hl.1 rfl (Nat.le_of_ble_eq_true rfl) dX4_add_8 rfl (fun H locs hw => ?_)
    refine lv_if_eq (tgt := 21) hx hb dX4_add_11 (by decide) (fun c4 => ?_) (fun c4 => ?_)
    · replace h := stT c4 h
      refine lv_iconst (v := -1) hx hb dX4_add_21 (by decide) ?_
      obtain rfl := Option.some.inj h
      exact hE H locs _ ls hw dX4_add_22
    · replace h := stF c4 h
      refine lv_iload_n hx hb dX4_add_14 rfl (lv_at hl 3 rfl) ?_
      obtain ⟨z5, hz5, h⟩ := stB h
      refine ctS (av := [.int v3]) (st0 := ([] : List Value)) (st1 := ([.int z5] : List Value)) F hw hA (k_X4_isShelf hz5) kl_4_132 kd_X4_isShelf rfl ⟨by decide, by decide⟩ hl.1 rfl (Nat.le_of_ble_eq_true rfl) dX4_add_15 rfl (fun H locs hw => ?_)
      refine lv_if_ne (tgt := 23) hx hb dX4_add_18 (by decide) (fun c6 => ?_) (fun c6 => ?_)
      · replace h := stF c6 h
        refine lv_aload_n hx hb dX4_add_23 rfl (lv_at hl 0 rfl) ?_
        refine gf_4_32 F hw dX4_add_24 ?_
        refine lv_aload_n hx hb dX4_add_27 rfl (lv_at hl 0 rfl) ?_
        refine gf_4_47 F hw dX4_add_28 ?_
        refine lv_iload_n hx hb dX4_add_31 rfl (lv_at hl 1 rfl) ?_
        obtain ⟨g7, h⟩ := stG h
        refine aq_c22 F hw g7 dX4_add_32 ?_
        refine lv_aload_n hx hb dX4_add_33 rfl (lv_at hl 0 rfl) ?_
        refine gf_4_47 F hw dX4_add_34 ?_
        refine lv_iload_n hx hb dX4_add_37 rfl (lv_at hl 2 rfl) ?_
        obtain ⟨g8, h⟩ := stG h
        refine aq_c22 F hw g8 dX4_add_38 ?_
        refine lv_aload_n hx hb dX4_add_39 rfl (lv_at hl 0 rfl) ?_
        refine gf_4_47 F hw dX4_add_40 ?_
        refine lv_iload_n hx hb dX4_add_43 rfl (lv_at hl 3 rfl) ?_
        obtain ⟨g9, h⟩ := stG h
        refine aq_c22 F hw g9 dX4_add_44 ?_
        obtain ⟨z10, hz10, h⟩ := stB h
        refine ctV (av := [.ref (q (26 + (0 + v1.toNatClampNeg))), .ref (q (26 + (0 + v2.toNatClampNeg))), .ref (q (26 + (0 + v3.toNatClampNeg)))]) (st0 := ([] : List Value)) (st1 := ([.int z10.1] : List Value)) F hw hA (k_X2_sum (Nat.lt_of_lt_of_le (Nat.add_lt_add_left (inb_lt g7) 0) (by decide)) (Nat.lt_of_lt_of_le (Nat.add_lt_add_left (inb_lt g8) 0) (by decide)) (Nat.lt_of_lt_of_le (Nat.add_lt_add_left (inb_lt g9) 0) (by decide)) hz10) kl_4_138 kd_X2_sum rfl ⟨by decide, by decide⟩ 15 rfl rfl hl.1 rfl (Nat.le_of_ble_eq_true rfl) dX4_add_45 rfl (fun H locs hw => ?_)
        refine lv_if_eq (tgt := 55) hx hb dX4_add_48 (by decide) (fun c11 => ?_) (fun c11 => ?_)
        · replace h := stT c11 h
          refine lv_bipush (v := -9) hx hb dX4_add_55 (by decide) ?_
          obtain rfl := Option.some.inj h
          exact hE H locs _ ls hw dX4_add_57
        · replace h := stF c11 h
          refine lv_iconst (v := 1) hx hb dX4_add_51 (by decide) ?_
          refine lv_goto (tgt := 57) hx hb dX4_add_52 (by decide) ?_
          obtain rfl := Option.some.inj h
          exact hE H locs _ ls hw dX4_add_57
      · replace h := stT c6 h
        refine lv_iconst (v := -1) hx hb dX4_add_21 (by decide) ?_
        obtain rfl := Option.some.inj h
        exact hE H locs _ ls hw dX4_add_22
end
theorem dX4_less_0 : decode cX4_less 0 = .ok (.iload_n 1, 1) := by decide +kernel
theorem dX4_less_1 : decode cX4_less 1 = .ok (.invokestatic 132, 3) := by decide +kernel
theorem dX4_less_4 : decode cX4_less 4 = .ok (.ifCond .eq 17, 3) := by decide +kernel
theorem dX4_less_7 : decode cX4_less 7 = .ok (.iload_n 2, 1) := by decide +kernel
theorem dX4_less_8 : decode cX4_less 8 = .ok (.invokestatic 132, 3) := by decide +kernel
theorem dX4_less_11 : decode cX4_less 11 = .ok (.ifCond .eq 10, 3) := by decide +kernel
theorem dX4_less_14 : decode cX4_less 14 = .ok (.iload_n 3, 1) := by decide +kernel
theorem dX4_less_15 : decode cX4_less 15 = .ok (.invokestatic 132, 3) := by decide +kernel
theorem dX4_less_18 : decode cX4_less 18 = .ok (.ifCond .ne 5, 3) := by decide +kernel
theorem dX4_less_21 : decode cX4_less 21 = .ok (.iconst (-1), 1) := by decide +kernel
theorem dX4_less_22 : decode cX4_less 22 = .ok (.ireturn, 1) := by decide +kernel
theorem dX4_less_23 : decode cX4_less 23 = .ok (.aload_n 0, 1) := by decide +kernel
theorem dX4_less_24 : decode cX4_less 24 = .ok (.getfield 32, 3) := by decide +kernel
theorem dX4_less_27 : decode cX4_less 27 = .ok (.aload_n 0, 1) := by decide +kernel
theorem dX4_less_28 : decode cX4_less 28 = .ok (.getfield 47, 3) := by decide +kernel
theorem dX4_less_31 : decode cX4_less 31 = .ok (.iload_n 1, 1) := by decide +kernel
theorem dX4_less_32 : decode cX4_less 32 = .ok (.aaload, 1) := by decide +kernel
theorem dX4_less_33 : decode cX4_less 33 = .ok (.aload_n 0, 1) := by decide +kernel
theorem dX4_less_34 : decode cX4_less 34 = .ok (.getfield 47, 3) := by decide +kernel
theorem dX4_less_37 : decode cX4_less 37 = .ok (.iload_n 2, 1) := by decide +kernel
theorem dX4_less_38 : decode cX4_less 38 = .ok (.aaload, 1) := by decide +kernel
theorem dX4_less_39 : decode cX4_less 39 = .ok (.aload_n 0, 1) := by decide +kernel
theorem dX4_less_40 : decode cX4_less 40 = .ok (.getfield 47, 3) := by decide +kernel
theorem dX4_less_43 : decode cX4_less 43 = .ok (.iload_n 3, 1) := by decide +kernel
theorem dX4_less_44 : decode cX4_less 44 = .ok (.aaload, 1) := by decide +kernel
theorem dX4_less_45 : decode cX4_less 45 = .ok (.invokevirtual 142, 3) := by decide +kernel
theorem dX4_less_48 : decode cX4_less 48 = .ok (.ifCond .eq 7, 3) := by decide +kernel
theorem dX4_less_51 : decode cX4_less 51 = .ok (.iconst 1, 1) := by decide +kernel
theorem dX4_less_52 : decode cX4_less 52 = .ok (.goto 5, 3) := by decide +kernel
theorem dX4_less_55 : decode cX4_less 55 = .ok (.bipush (-9), 2) := by decide +kernel
theorem dX4_less_57 : decode cX4_less 57 = .ok (.ireturn, 1) := by decide +kernel
section
variable {p : Program} {l : Launch} {e : Env} {s : State} {m : MethodId} {args : Array Value} {below : List Frame} {meth : Method} {c : Code} {Q : State → Prop} {G : GG} {A : Nat → Prop} {q : Nat → Nat} {fr : va_W}
def f_X4_less (ze : Int32) (ztc : Int32) (aTs : Nat → Int32) (aTn : Nat → Int32) (zoc : Int32) (aOs : Nat → Int32) (aOn : Nat → Int32) (M : Nat → Nat → Int64) (v1 : Int32) (v2 : Int32) (v3 : Int32) : Option (Int32 × Int32 × (Nat → Int32) × (Nat → Int32) × Int32 × (Nat → Nat → Int64)) :=
  (f_X4_isShelf v1).bind fun z1 =>
  if z1 = 0 then
  some ((-1), ztc, aTs, aTn, zoc, M)
  else
  (f_X4_isShelf v2).bind fun z3 =>
  if z3 = 0 then
  some ((-1), ztc, aTs, aTn, zoc, M)
  else
  (f_X4_isShelf v3).bind fun z5 =>
  if z5 = 0 then
  some ((-1), ztc, aTs, aTn, zoc, M)
  else
  if inb v1 4 then
  if inb v2 4 then
  if inb v3 4 then
  (f_X2_difference ze ztc aTs aTn zoc aOs aOn M (0 + v1.toNatClampNeg) (0 + v2.toNatClampNeg) (0 + v3.toNatClampNeg)).bind fun z10 =>
  if z10.1 = 0 then
  some ((-9), z10.2.1, z10.2.2.1, z10.2.2.2.1, z10.2.2.2.2.1, z10.2.2.2.2.2)
  else
  some (1, z10.2.1, z10.2.2.1, z10.2.2.2.1, z10.2.2.2.2.1, z10.2.2.2.2.2)
  else none
  else none
  else none
set_option maxHeartbeats 4000000 in
set_option maxRecDepth 100000 in
theorem k_X4_less {l : Launch} {G : GG} {q : Nat → Nat} {fr : va_W}  {zp : Int32} {ze : Int32} {zf : Int32} {zg : Int32} {zn : Int32} {aG : Nat → Int32} {aW : Nat → Int32} {aR : Nat → Int32} {aN : Nat → Int32} {aF : Nat → Int32} {lC : Nat → Int64} {lS : Nat → Int64} {lP : Nat → Int64} {lX : Nat → Int64} {ztc : Int32} {aTs : Nat → Int32} {aTn : Nat → Int32} {zoc : Int32} {aOs : Nat → Int32} {aOn : Nat → Int32} {aTp : Nat → Int32} {zln : Int32} {zpl : Int32} {zfa : Int32} {aSz : Nat → Int32} {zit : Int32} {zip : Int32} {zic : Int32} {zig : Int32} {M : Nat → Nat → Int64} {v1 : Int32} {v2 : Int32} {v3 : Int32} {z : Int32 × Int32 × (Nat → Int32) × (Nat → Int32) × Int32 × (Nat → Nat → Int64)}  (h : f_X4_less ze ztc aTs aTn zoc aOs aOn M v1 v2 v3 = some z) : Ct l G yX4_less cX4_less 4 (some .int) 2 49 [.ref (q 21), .int v1, .int v2, .int v3] (kW G q zp ze zf zg zn aG aW aR aN aF lC lS lP lX ++ (oW G q ztc aTs aTn zoc aOs aOn aTp zln zpl zfa aSz zit zip zic zig M ++ fr)) (some (.int z.1)) (kW G q zp ze zf zg zn aG aW aR aN aF lC lS lP lX ++ (oW G q z.2.1 z.2.2.1 z.2.2.2.1 z.2.2.2.2.1 aOs aOn aTp zln zpl zfa aSz zit zip zic zig z.2.2.2.2.2 ++ fr)) := by
  refine Ct.of (by decide +kernel) (Nat.le_of_ble_eq_true rfl) trivial ?_
  intro p e s m args below meth c Q A ls F hw hA hE hl
  have hx := F.x
  have hb := F.b
  unfold f_X4_less at h
  obtain ⟨H, hH⟩ : ∃ H, H = s.heap := ⟨_, rfl⟩
  obtain ⟨locs, hlo⟩ : ∃ locs : List Loc, locs = [] := ⟨_, rfl⟩
  rw [← hH, ← hlo] at hw ⊢
  have hl : lv_has ls 4 [(0, .ref (q 21)), (1, .int v1), (2, .int v2), (3, .int v3)] := hl
  refine lv_iload_n hx hb dX4_less_0 rfl (lv_at hl 1 rfl) ?_
  obtain ⟨z1, hz1, h⟩ := stB h
  refine ctS (av := [.int v1]) (st0 := ([] : List Value)) (st1 := ([.int z1] : List Value)) F hw hA (k_X4_isShelf hz1) kl_4_132 kd_X4_isShelf rfl ⟨by decide, by decide⟩ hl.1 rfl (Nat.le_of_ble_eq_true rfl) dX4_less_1 rfl (fun H locs hw => ?_)
  refine lv_if_eq (tgt := 21) hx hb dX4_less_4 (by decide) (fun c2 => ?_) (fun c2 => ?_)
  · replace h := stT c2 h
    refine lv_iconst (v := -1) hx hb dX4_less_21 (by decide) ?_
    obtain rfl := Option.some.inj h
    exact hE H locs _ ls hw dX4_less_22
  · replace h := stF c2 h
    refine lv_iload_n hx hb dX4_less_7 rfl (lv_at hl 2 rfl) ?_
    obtain ⟨z3, hz3, h⟩ := stB h
    refine ctS (av := [.int v2]) (st0 := ([] : List Value)) (st1 := ([.int z3] : List Value)) F hw hA (k_X4_isShelf hz3) kl_4_132 kd_X4_isShelf rfl ⟨by decide, by decide⟩ hl.1 rfl (Nat.le_of_ble_eq_true rfl) dX4_less_8 rfl (fun H locs hw => ?_)
    refine lv_if_eq (tgt := 21) hx hb dX4_less_11 (by decide) (fun c4 => ?_) (fun c4 => ?_)
    · replace h := stT c4 h
      refine lv_iconst (v := -1) hx hb dX4_less_21 (by decide) ?_
      obtain rfl := Option.some.inj h
      exact hE H locs _ ls hw dX4_less_22
    · replace h := stF c4 h
      refine lv_iload_n hx hb dX4_less_14 rfl (lv_at hl 3 rfl) ?_
      obtain ⟨z5, hz5, h⟩ := stB h
      refine ctS (av := [.int v3]) (st0 := ([] : List Value)) (st1 := ([.int z5] : List Value)) F hw hA (k_X4_isShelf hz5) kl_4_132 kd_X4_isShelf rfl ⟨by decide, by decide⟩ hl.1 rfl (Nat.le_of_ble_eq_true rfl) dX4_less_15 rfl (fun H locs hw => ?_)
      refine lv_if_ne (tgt := 23) hx hb dX4_less_18 (by decide) (fun c6 => ?_) (fun c6 => ?_)
      · replace h := stF c6 h
        refine lv_aload_n hx hb dX4_less_23 rfl (lv_at hl 0 rfl) ?_
        refine gf_4_32 F hw dX4_less_24 ?_
        refine lv_aload_n hx hb dX4_less_27 rfl (lv_at hl 0 rfl) ?_
        refine gf_4_47 F hw dX4_less_28 ?_
        refine lv_iload_n hx hb dX4_less_31 rfl (lv_at hl 1 rfl) ?_
        obtain ⟨g7, h⟩ := stG h
        refine aq_c22 F hw g7 dX4_less_32 ?_
        refine lv_aload_n hx hb dX4_less_33 rfl (lv_at hl 0 rfl) ?_
        refine gf_4_47 F hw dX4_less_34 ?_
        refine lv_iload_n hx hb dX4_less_37 rfl (lv_at hl 2 rfl) ?_
        obtain ⟨g8, h⟩ := stG h
        refine aq_c22 F hw g8 dX4_less_38 ?_
        refine lv_aload_n hx hb dX4_less_39 rfl (lv_at hl 0 rfl) ?_
        refine gf_4_47 F hw dX4_less_40 ?_
        refine lv_iload_n hx hb dX4_less_43 rfl (lv_at hl 3 rfl) ?_
        obtain ⟨g9, h⟩ := stG h
        refine aq_c22 F hw g9 dX4_less_44 ?_
        obtain ⟨z10, hz10, h⟩ := stB h
        refine ctV (av := [.ref (q (26 + (0 + v1.toNatClampNeg))), .ref (q (26 + (0 + v2.toNatClampNeg))), .ref (q (26 + (0 + v3.toNatClampNeg)))]) (st0 := ([] : List Value)) (st1 := ([.int z10.1] : List Value)) F hw hA (k_X2_difference (Nat.lt_of_lt_of_le (Nat.add_lt_add_left (inb_lt g7) 0) (by decide)) (Nat.lt_of_lt_of_le (Nat.add_lt_add_left (inb_lt g8) 0) (by decide)) (Nat.lt_of_lt_of_le (Nat.add_lt_add_left (inb_lt g9) 0) (by decide)) hz10) kl_4_142 kd_X2_difference rfl ⟨by decide, by decide⟩ 15 rfl rfl hl.1 rfl (Nat.le_of_ble_eq_true rfl) dX4_less_45 rfl (fun H locs hw => ?_)
        refine lv_if_eq (tgt := 55) hx hb dX4_less_48 (by decide) (fun c11 => ?_) (fun c11 => ?_)
        · replace h := stT c11 h
          refine lv_bipush (v := -9) hx hb dX4_less_55 (by decide) ?_
          obtain rfl := Option.some.inj h
          exact hE H locs _ ls hw dX4_less_57
        · replace h := stF c11 h
          refine lv_iconst (v := 1) hx hb dX4_less_51 (by decide) ?_
          refine lv_goto (tgt := 57) hx hb dX4_less_52 (by decide) ?_
          obtain rfl := Option.some.inj h
          exact hE H locs _ ls hw dX4_less_57
      · replace h := stT c6 h
        refine lv_iconst (v := -1) hx hb dX4_less_21 (by decide) ?_
        obtain rfl := Option.some.inj h
        exact hE H locs _ ls hw dX4_less_22
end
theorem dX4_product_0 : decode cX4_product 0 = .ok (.iload_n 1, 1) := by decide +kernel
theorem dX4_product_1 : decode cX4_product 1 = .ok (.invokestatic 132, 3) := by decide +kernel
theorem dX4_product_4 : decode cX4_product 4 = .ok (.ifCond .eq 17, 3) := by decide +kernel
theorem dX4_product_7 : decode cX4_product 7 = .ok (.iload_n 2, 1) := by decide +kernel
theorem dX4_product_8 : decode cX4_product 8 = .ok (.invokestatic 132, 3) := by decide +kernel
theorem dX4_product_11 : decode cX4_product 11 = .ok (.ifCond .eq 10, 3) := by decide +kernel
theorem dX4_product_14 : decode cX4_product 14 = .ok (.iload_n 3, 1) := by decide +kernel
theorem dX4_product_15 : decode cX4_product 15 = .ok (.invokestatic 132, 3) := by decide +kernel
theorem dX4_product_18 : decode cX4_product 18 = .ok (.ifCond .ne 5, 3) := by decide +kernel
theorem dX4_product_21 : decode cX4_product 21 = .ok (.iconst (-1), 1) := by decide +kernel
theorem dX4_product_22 : decode cX4_product 22 = .ok (.ireturn, 1) := by decide +kernel
theorem dX4_product_23 : decode cX4_product 23 = .ok (.aload_n 0, 1) := by decide +kernel
theorem dX4_product_24 : decode cX4_product 24 = .ok (.getfield 32, 3) := by decide +kernel
theorem dX4_product_27 : decode cX4_product 27 = .ok (.aload_n 0, 1) := by decide +kernel
theorem dX4_product_28 : decode cX4_product 28 = .ok (.getfield 47, 3) := by decide +kernel
theorem dX4_product_31 : decode cX4_product 31 = .ok (.iload_n 1, 1) := by decide +kernel
theorem dX4_product_32 : decode cX4_product 32 = .ok (.aaload, 1) := by decide +kernel
theorem dX4_product_33 : decode cX4_product 33 = .ok (.aload_n 0, 1) := by decide +kernel
theorem dX4_product_34 : decode cX4_product 34 = .ok (.getfield 47, 3) := by decide +kernel
theorem dX4_product_37 : decode cX4_product 37 = .ok (.iload_n 2, 1) := by decide +kernel
theorem dX4_product_38 : decode cX4_product 38 = .ok (.aaload, 1) := by decide +kernel
theorem dX4_product_39 : decode cX4_product 39 = .ok (.aload_n 0, 1) := by decide +kernel
theorem dX4_product_40 : decode cX4_product 40 = .ok (.getfield 47, 3) := by decide +kernel
theorem dX4_product_43 : decode cX4_product 43 = .ok (.iload_n 3, 1) := by decide +kernel
theorem dX4_product_44 : decode cX4_product 44 = .ok (.aaload, 1) := by decide +kernel
theorem dX4_product_45 : decode cX4_product 45 = .ok (.invokevirtual 145, 3) := by decide +kernel
theorem dX4_product_48 : decode cX4_product 48 = .ok (.ifCond .eq 7, 3) := by decide +kernel
theorem dX4_product_51 : decode cX4_product 51 = .ok (.iconst 1, 1) := by decide +kernel
theorem dX4_product_52 : decode cX4_product 52 = .ok (.goto 5, 3) := by decide +kernel
theorem dX4_product_55 : decode cX4_product 55 = .ok (.bipush (-9), 2) := by decide +kernel
theorem dX4_product_57 : decode cX4_product 57 = .ok (.ireturn, 1) := by decide +kernel
section
variable {p : Program} {l : Launch} {e : Env} {s : State} {m : MethodId} {args : Array Value} {below : List Frame} {meth : Method} {c : Code} {Q : State → Prop} {G : GG} {A : Nat → Prop} {q : Nat → Nat} {fr : va_W}
def f_X4_product (ze : Int32) (aF : Nat → Int32) (ztc : Int32) (aTs : Nat → Int32) (aTn : Nat → Int32) (zoc : Int32) (aOs : Nat → Int32) (aOn : Nat → Int32) (M : Nat → Nat → Int64) (v1 : Int32) (v2 : Int32) (v3 : Int32) : Option (Int32 × Int32 × (Nat → Int32) × (Nat → Int32) × Int32 × (Nat → Nat → Int64)) :=
  (f_X4_isShelf v1).bind fun z1 =>
  if z1 = 0 then
  some ((-1), ztc, aTs, aTn, zoc, M)
  else
  (f_X4_isShelf v2).bind fun z3 =>
  if z3 = 0 then
  some ((-1), ztc, aTs, aTn, zoc, M)
  else
  (f_X4_isShelf v3).bind fun z5 =>
  if z5 = 0 then
  some ((-1), ztc, aTs, aTn, zoc, M)
  else
  if inb v1 4 then
  if inb v2 4 then
  if inb v3 4 then
  (f_X2_multiply ze aF ztc aTs aTn zoc aOs aOn M (0 + v1.toNatClampNeg) (0 + v2.toNatClampNeg) (0 + v3.toNatClampNeg)).bind fun z10 =>
  if z10.1 = 0 then
  some ((-9), z10.2.1, z10.2.2.1, z10.2.2.2.1, z10.2.2.2.2.1, z10.2.2.2.2.2)
  else
  some (1, z10.2.1, z10.2.2.1, z10.2.2.2.1, z10.2.2.2.2.1, z10.2.2.2.2.2)
  else none
  else none
  else none
set_option maxHeartbeats 4000000 in
set_option maxRecDepth 100000 in
theorem k_X4_product {l : Launch} {G : GG} {q : Nat → Nat} {fr : va_W}  {zp : Int32} {ze : Int32} {zf : Int32} {zg : Int32} {zn : Int32} {aG : Nat → Int32} {aW : Nat → Int32} {aR : Nat → Int32} {aN : Nat → Int32} {aF : Nat → Int32} {lC : Nat → Int64} {lS : Nat → Int64} {lP : Nat → Int64} {lX : Nat → Int64} {ztc : Int32} {aTs : Nat → Int32} {aTn : Nat → Int32} {zoc : Int32} {aOs : Nat → Int32} {aOn : Nat → Int32} {aTp : Nat → Int32} {zln : Int32} {zpl : Int32} {zfa : Int32} {aSz : Nat → Int32} {zit : Int32} {zip : Int32} {zic : Int32} {zig : Int32} {M : Nat → Nat → Int64} {v1 : Int32} {v2 : Int32} {v3 : Int32} {z : Int32 × Int32 × (Nat → Int32) × (Nat → Int32) × Int32 × (Nat → Nat → Int64)}  (h : f_X4_product ze aF ztc aTs aTn zoc aOs aOn M v1 v2 v3 = some z) : Ct l G yX4_product cX4_product 4 (some .int) 3 83 [.ref (q 21), .int v1, .int v2, .int v3] (kW G q zp ze zf zg zn aG aW aR aN aF lC lS lP lX ++ (oW G q ztc aTs aTn zoc aOs aOn aTp zln zpl zfa aSz zit zip zic zig M ++ fr)) (some (.int z.1)) (kW G q zp ze zf zg zn aG aW aR aN aF lC lS lP lX ++ (oW G q z.2.1 z.2.2.1 z.2.2.2.1 z.2.2.2.2.1 aOs aOn aTp zln zpl zfa aSz zit zip zic zig z.2.2.2.2.2 ++ fr)) := by
  refine Ct.of (by decide +kernel) (Nat.le_of_ble_eq_true rfl) trivial ?_
  intro p e s m args below meth c Q A ls F hw hA hE hl
  have hx := F.x
  have hb := F.b
  unfold f_X4_product at h
  obtain ⟨H, hH⟩ : ∃ H, H = s.heap := ⟨_, rfl⟩
  obtain ⟨locs, hlo⟩ : ∃ locs : List Loc, locs = [] := ⟨_, rfl⟩
  rw [← hH, ← hlo] at hw ⊢
  have hl : lv_has ls 4 [(0, .ref (q 21)), (1, .int v1), (2, .int v2), (3, .int v3)] := hl
  refine lv_iload_n hx hb dX4_product_0 rfl (lv_at hl 1 rfl) ?_
  obtain ⟨z1, hz1, h⟩ := stB h
  refine ctS (av := [.int v1]) (st0 := ([] : List Value)) (st1 := ([.int z1] : List Value)) F hw hA (k_X4_isShelf hz1) kl_4_132 kd_X4_isShelf rfl ⟨by decide, by decide⟩ hl.1 rfl (Nat.le_of_ble_eq_true rfl) dX4_product_1 rfl (fun H locs hw => ?_)
  refine lv_if_eq (tgt := 21) hx hb dX4_product_4 (by decide) (fun c2 => ?_) (fun c2 => ?_)
  · replace h := stT c2 h
    refine lv_iconst (v := -1) hx hb dX4_product_21 (by decide) ?_
    obtain rfl := Option.some.inj h
    exact hE H locs _ ls hw dX4_product_22
  · replace h := stF c2 h
    refine lv_iload_n hx hb dX4_product_7 rfl (lv_at hl 2 rfl) ?_
    obtain ⟨z3, hz3, h⟩ := stB h
    refine ctS (av := [.int v2]) (st0 := ([] : List Value)) (st1 := ([.int z3] : List Value)) F hw hA (k_X4_isShelf hz3) kl_4_132 kd_X4_isShelf rfl ⟨by decide, by decide⟩ hl.1 rfl (Nat.le_of_ble_eq_true rfl) dX4_product_8 rfl (fun H locs hw => ?_)
    refine lv_if_eq (tgt := 21) hx hb dX4_product_11 (by decide) (fun c4 => ?_) (fun c4 => ?_)
    · replace h := stT c4 h
      refine lv_iconst (v := -1) hx hb dX4_product_21 (by decide) ?_
      obtain rfl := Option.some.inj h
      exact hE H locs _ ls hw dX4_product_22
    · replace h := stF c4 h
      refine lv_iload_n hx hb dX4_product_14 rfl (lv_at hl 3 rfl) ?_
      obtain ⟨z5, hz5, h⟩ := stB h
      refine ctS (av := [.int v3]) (st0 := ([] : List Value)) (st1 := ([.int z5] : List Value)) F hw hA (k_X4_isShelf hz5) kl_4_132 kd_X4_isShelf rfl ⟨by decide, by decide⟩ hl.1 rfl (Nat.le_of_ble_eq_true rfl) dX4_product_15 rfl (fun H locs hw => ?_)
      refine lv_if_ne (tgt := 23) hx hb dX4_product_18 (by decide) (fun c6 => ?_) (fun c6 => ?_)
      · replace h := stF c6 h
        refine lv_aload_n hx hb dX4_product_23 rfl (lv_at hl 0 rfl) ?_
        refine gf_4_32 F hw dX4_product_24 ?_
        refine lv_aload_n hx hb dX4_product_27 rfl (lv_at hl 0 rfl) ?_
        refine gf_4_47 F hw dX4_product_28 ?_
        refine lv_iload_n hx hb dX4_product_31 rfl (lv_at hl 1 rfl) ?_
        obtain ⟨g7, h⟩ := stG h
        refine aq_c22 F hw g7 dX4_product_32 ?_
        refine lv_aload_n hx hb dX4_product_33 rfl (lv_at hl 0 rfl) ?_
        refine gf_4_47 F hw dX4_product_34 ?_
        refine lv_iload_n hx hb dX4_product_37 rfl (lv_at hl 2 rfl) ?_
        obtain ⟨g8, h⟩ := stG h
        refine aq_c22 F hw g8 dX4_product_38 ?_
        refine lv_aload_n hx hb dX4_product_39 rfl (lv_at hl 0 rfl) ?_
        refine gf_4_47 F hw dX4_product_40 ?_
        refine lv_iload_n hx hb dX4_product_43 rfl (lv_at hl 3 rfl) ?_
        obtain ⟨g9, h⟩ := stG h
        refine aq_c22 F hw g9 dX4_product_44 ?_
        obtain ⟨z10, hz10, h⟩ := stB h
        refine ctV (av := [.ref (q (26 + (0 + v1.toNatClampNeg))), .ref (q (26 + (0 + v2.toNatClampNeg))), .ref (q (26 + (0 + v3.toNatClampNeg)))]) (st0 := ([] : List Value)) (st1 := ([.int z10.1] : List Value)) F hw hA (k_X2_multiply (Nat.lt_of_lt_of_le (Nat.add_lt_add_left (inb_lt g7) 0) (by decide)) (Nat.lt_of_lt_of_le (Nat.add_lt_add_left (inb_lt g8) 0) (by decide)) (Nat.lt_of_lt_of_le (Nat.add_lt_add_left (inb_lt g9) 0) (by decide)) hz10) kl_4_145 kd_X2_multiply rfl ⟨by decide, by decide⟩ 15 rfl rfl hl.1 rfl (Nat.le_of_ble_eq_true rfl) dX4_product_45 rfl (fun H locs hw => ?_)
        refine lv_if_eq (tgt := 55) hx hb dX4_product_48 (by decide) (fun c11 => ?_) (fun c11 => ?_)
        · replace h := stT c11 h
          refine lv_bipush (v := -9) hx hb dX4_product_55 (by decide) ?_
          obtain rfl := Option.some.inj h
          exact hE H locs _ ls hw dX4_product_57
        · replace h := stF c11 h
          refine lv_iconst (v := 1) hx hb dX4_product_51 (by decide) ?_
          refine lv_goto (tgt := 57) hx hb dX4_product_52 (by decide) ?_
          obtain rfl := Option.some.inj h
          exact hE H locs _ ls hw dX4_product_57
      · replace h := stT c6 h
        refine lv_iconst (v := -1) hx hb dX4_product_21 (by decide) ?_
        obtain rfl := Option.some.inj h
        exact hE H locs _ ls hw dX4_product_22
end
theorem dX4_raise_0 : decode cX4_raise 0 = .ok (.iload_n 1, 1) := by decide +kernel
theorem dX4_raise_1 : decode cX4_raise 1 = .ok (.invokestatic 132, 3) := by decide +kernel
theorem dX4_raise_4 : decode cX4_raise 4 = .ok (.ifCond .eq 10, 3) := by decide +kernel
theorem dX4_raise_7 : decode cX4_raise 7 = .ok (.iload_n 3, 1) := by decide +kernel
theorem dX4_raise_8 : decode cX4_raise 8 = .ok (.invokestatic 132, 3) := by decide +kernel
theorem dX4_raise_11 : decode cX4_raise 11 = .ok (.ifCond .ne 5, 3) := by decide +kernel
theorem dX4_raise_14 : decode cX4_raise 14 = .ok (.iconst (-1), 1) := by decide +kernel
theorem dX4_raise_15 : decode cX4_raise 15 = .ok (.ireturn, 1) := by decide +kernel
theorem dX4_raise_16 : decode cX4_raise 16 = .ok (.iload_n 2, 1) := by decide +kernel
theorem dX4_raise_17 : decode cX4_raise 17 = .ok (.ifCond .lt 9, 3) := by decide +kernel
theorem dX4_raise_20 : decode cX4_raise 20 = .ok (.iload_n 2, 1) := by decide +kernel
theorem dX4_raise_21 : decode cX4_raise 21 = .ok (.bipush 40, 2) := by decide +kernel
theorem dX4_raise_23 : decode cX4_raise 23 = .ok (.if_icmp .le 6, 3) := by decide +kernel
theorem dX4_raise_26 : decode cX4_raise 26 = .ok (.bipush (-2), 2) := by decide +kernel
theorem dX4_raise_28 : decode cX4_raise 28 = .ok (.ireturn, 1) := by decide +kernel
theorem dX4_raise_29 : decode cX4_raise 29 = .ok (.aload_n 0, 1) := by decide +kernel
theorem dX4_raise_30 : decode cX4_raise 30 = .ok (.getfield 32, 3) := by decide +kernel
theorem dX4_raise_33 : decode cX4_raise 33 = .ok (.aload_n 0, 1) := by decide +kernel
theorem dX4_raise_34 : decode cX4_raise 34 = .ok (.getfield 47, 3) := by decide +kernel
theorem dX4_raise_37 : decode cX4_raise 37 = .ok (.iload_n 1, 1) := by decide +kernel
theorem dX4_raise_38 : decode cX4_raise 38 = .ok (.aaload, 1) := by decide +kernel
theorem dX4_raise_39 : decode cX4_raise 39 = .ok (.iload_n 2, 1) := by decide +kernel
theorem dX4_raise_40 : decode cX4_raise 40 = .ok (.aload_n 0, 1) := by decide +kernel
theorem dX4_raise_41 : decode cX4_raise 41 = .ok (.getfield 47, 3) := by decide +kernel
theorem dX4_raise_44 : decode cX4_raise 44 = .ok (.iload_n 3, 1) := by decide +kernel
theorem dX4_raise_45 : decode cX4_raise 45 = .ok (.aaload, 1) := by decide +kernel
theorem dX4_raise_46 : decode cX4_raise 46 = .ok (.invokevirtual 148, 3) := by decide +kernel
theorem dX4_raise_49 : decode cX4_raise 49 = .ok (.ifCond .eq 7, 3) := by decide +kernel
theorem dX4_raise_52 : decode cX4_raise 52 = .ok (.iconst 1, 1) := by decide +kernel
theorem dX4_raise_53 : decode cX4_raise 53 = .ok (.goto 5, 3) := by decide +kernel
theorem dX4_raise_56 : decode cX4_raise 56 = .ok (.bipush (-9), 2) := by decide +kernel
theorem dX4_raise_58 : decode cX4_raise 58 = .ok (.ireturn, 1) := by decide +kernel
section
variable {p : Program} {l : Launch} {e : Env} {s : State} {m : MethodId} {args : Array Value} {below : List Frame} {meth : Method} {c : Code} {Q : State → Prop} {G : GG} {A : Nat → Prop} {q : Nat → Nat} {fr : va_W}
def f_X4_raise (ze : Int32) (aF : Nat → Int32) (ztc : Int32) (aTs : Nat → Int32) (aTn : Nat → Int32) (zoc : Int32) (aOs : Nat → Int32) (aOn : Nat → Int32) (M : Nat → Nat → Int64) (v1 : Int32) (v2 : Int32) (v3 : Int32) : Option (Int32 × Int32 × (Nat → Int32) × (Nat → Int32) × Int32 × (Nat → Int32) × (Nat → Int32) × (Nat → Nat → Int64)) :=
  (f_X4_isShelf v1).bind fun z1 =>
  if z1 = 0 then
  some ((-1), ztc, aTs, aTn, zoc, aOs, aOn, M)
  else
  (f_X4_isShelf v3).bind fun z3 =>
  if z3 = 0 then
  some ((-1), ztc, aTs, aTn, zoc, aOs, aOn, M)
  else
  if v2 < 0 then
  some ((-2), ztc, aTs, aTn, zoc, aOs, aOn, M)
  else
  if v2 ≤ 40 then
  if inb v1 4 then
  if inb v3 4 then
  (f_X2_multiplyOften ze aF ztc aTs aTn zoc aOs aOn M (0 + v1.toNatClampNeg) v2 (0 + v3.toNatClampNeg)).bind fun z9 =>
  if z9.1 = 0 then
  some ((-9), z9.2.1, z9.2.2.1, z9.2.2.2.1, z9.2.2.2.2.1, z9.2.2.2.2.2.1, z9.2.2.2.2.2.2.1, z9.2.2.2.2.2.2.2)
  else
  some (1, z9.2.1, z9.2.2.1, z9.2.2.2.1, z9.2.2.2.2.1, z9.2.2.2.2.2.1, z9.2.2.2.2.2.2.1, z9.2.2.2.2.2.2.2)
  else none
  else none
  else
  some ((-2), ztc, aTs, aTn, zoc, aOs, aOn, M)
set_option maxHeartbeats 4000000 in
set_option maxRecDepth 100000 in
theorem k_X4_raise {l : Launch} {G : GG} {q : Nat → Nat} {fr : va_W}  {zp : Int32} {ze : Int32} {zf : Int32} {zg : Int32} {zn : Int32} {aG : Nat → Int32} {aW : Nat → Int32} {aR : Nat → Int32} {aN : Nat → Int32} {aF : Nat → Int32} {lC : Nat → Int64} {lS : Nat → Int64} {lP : Nat → Int64} {lX : Nat → Int64} {ztc : Int32} {aTs : Nat → Int32} {aTn : Nat → Int32} {zoc : Int32} {aOs : Nat → Int32} {aOn : Nat → Int32} {aTp : Nat → Int32} {zln : Int32} {zpl : Int32} {zfa : Int32} {aSz : Nat → Int32} {zit : Int32} {zip : Int32} {zic : Int32} {zig : Int32} {M : Nat → Nat → Int64} {v1 : Int32} {v2 : Int32} {v3 : Int32} {z : Int32 × Int32 × (Nat → Int32) × (Nat → Int32) × Int32 × (Nat → Int32) × (Nat → Int32) × (Nat → Nat → Int64)}  (h : f_X4_raise ze aF ztc aTs aTn zoc aOs aOn M v1 v2 v3 = some z) : Ct l G yX4_raise cX4_raise 4 (some .int) 5 129 [.ref (q 21), .int v1, .int v2, .int v3] (kW G q zp ze zf zg zn aG aW aR aN aF lC lS lP lX ++ (oW G q ztc aTs aTn zoc aOs aOn aTp zln zpl zfa aSz zit zip zic zig M ++ fr)) (some (.int z.1)) (kW G q zp ze zf zg zn aG aW aR aN aF lC lS lP lX ++ (oW G q z.2.1 z.2.2.1 z.2.2.2.1 z.2.2.2.2.1 z.2.2.2.2.2.1 z.2.2.2.2.2.2.1 aTp zln zpl zfa aSz zit zip zic zig z.2.2.2.2.2.2.2 ++ fr)) := by
  refine Ct.of (by decide +kernel) (Nat.le_of_ble_eq_true rfl) trivial ?_
  intro p e s m args below meth c Q A ls F hw hA hE hl
  have hx := F.x
  have hb := F.b
  unfold f_X4_raise at h
  obtain ⟨H, hH⟩ : ∃ H, H = s.heap := ⟨_, rfl⟩
  obtain ⟨locs, hlo⟩ : ∃ locs : List Loc, locs = [] := ⟨_, rfl⟩
  rw [← hH, ← hlo] at hw ⊢
  have hl : lv_has ls 4 [(0, .ref (q 21)), (1, .int v1), (2, .int v2), (3, .int v3)] := hl
  refine lv_iload_n hx hb dX4_raise_0 rfl (lv_at hl 1 rfl) ?_
  obtain ⟨z1, hz1, h⟩ := stB h
  refine ctS (av := [.int v1]) (st0 := ([] : List Value)) (st1 := ([.int z1] : List Value)) F hw hA (k_X4_isShelf hz1) kl_4_132 kd_X4_isShelf rfl ⟨by decide, by decide⟩ hl.1 rfl (Nat.le_of_ble_eq_true rfl) dX4_raise_1 rfl (fun H locs hw => ?_)
  refine lv_if_eq (tgt := 14) hx hb dX4_raise_4 (by decide) (fun c2 => ?_) (fun c2 => ?_)
  · replace h := stT c2 h
    refine lv_iconst (v := -1) hx hb dX4_raise_14 (by decide) ?_
    obtain rfl := Option.some.inj h
    exact hE H locs _ ls hw dX4_raise_15
  · replace h := stF c2 h
    refine lv_iload_n hx hb dX4_raise_7 rfl (lv_at hl 3 rfl) ?_
    obtain ⟨z3, hz3, h⟩ := stB h
    refine ctS (av := [.int v3]) (st0 := ([] : List Value)) (st1 := ([.int z3] : List Value)) F hw hA (k_X4_isShelf hz3) kl_4_132 kd_X4_isShelf rfl ⟨by decide, by decide⟩ hl.1 rfl (Nat.le_of_ble_eq_true rfl) dX4_raise_8 rfl (fun H locs hw => ?_)
    refine lv_if_ne (tgt := 16) hx hb dX4_raise_11 (by decide) (fun c4 => ?_) (fun c4 => ?_)
    · replace h := stF c4 h
      refine lv_iload_n hx hb dX4_raise_16 rfl (lv_at hl 2 rfl) ?_
      refine lv_if_lt (tgt := 26) hx hb dX4_raise_17 (by decide) (fun c5 => ?_) (fun c5 => ?_)
      · replace h := stT c5 h
        refine lv_bipush (v := -2) hx hb dX4_raise_26 (by decide) ?_
        obtain rfl := Option.some.inj h
        exact hE H locs _ ls hw dX4_raise_28
      · replace h := stF c5 h
        refine lv_iload_n hx hb dX4_raise_20 rfl (lv_at hl 2 rfl) ?_
        refine lv_bipush (v := 40) hx hb dX4_raise_21 (by decide) ?_
        refine lv_icmp_le (tgt := 29) hx hb dX4_raise_23 (by decide) (fun c6 => ?_) (fun c6 => ?_)
        · replace h := stT c6 h
          refine lv_aload_n hx hb dX4_raise_29 rfl (lv_at hl 0 rfl) ?_
          refine gf_4_32 F hw dX4_raise_30 ?_
          refine lv_aload_n hx hb dX4_raise_33 rfl (lv_at hl 0 rfl) ?_
          refine gf_4_47 F hw dX4_raise_34 ?_
          refine lv_iload_n hx hb dX4_raise_37 rfl (lv_at hl 1 rfl) ?_
          obtain ⟨g7, h⟩ := stG h
          refine aq_c22 F hw g7 dX4_raise_38 ?_
          refine lv_iload_n hx hb dX4_raise_39 rfl (lv_at hl 2 rfl) ?_
          refine lv_aload_n hx hb dX4_raise_40 rfl (lv_at hl 0 rfl) ?_
          refine gf_4_47 F hw dX4_raise_41 ?_
          refine lv_iload_n hx hb dX4_raise_44 rfl (lv_at hl 3 rfl) ?_
          obtain ⟨g8, h⟩ := stG h
          refine aq_c22 F hw g8 dX4_raise_45 ?_
          obtain ⟨z9, hz9, h⟩ := stB h
          refine ctV (av := [.ref (q (26 + (0 + v1.toNatClampNeg))), .int v2, .ref (q (26 + (0 + v3.toNatClampNeg)))]) (st0 := ([] : List Value)) (st1 := ([.int z9.1] : List Value)) F hw hA (k_X2_multiplyOften (Nat.lt_of_lt_of_le (Nat.add_lt_add_left (inb_lt g7) 0) (by decide)) (Nat.lt_of_lt_of_le (Nat.add_lt_add_left (inb_lt g8) 0) (by decide)) hz9) kl_4_148 kd_X2_multiplyOften rfl ⟨by decide, by decide⟩ 15 rfl rfl hl.1 rfl (Nat.le_of_ble_eq_true rfl) dX4_raise_46 rfl (fun H locs hw => ?_)
          refine lv_if_eq (tgt := 56) hx hb dX4_raise_49 (by decide) (fun c10 => ?_) (fun c10 => ?_)
          · replace h := stT c10 h
            refine lv_bipush (v := -9) hx hb dX4_raise_56 (by decide) ?_
            obtain rfl := Option.some.inj h
            exact hE H locs _ ls hw dX4_raise_58
          · replace h := stF c10 h
            refine lv_iconst (v := 1) hx hb dX4_raise_52 (by decide) ?_
            refine lv_goto (tgt := 58) hx hb dX4_raise_53 (by decide) ?_
            obtain rfl := Option.some.inj h
            exact hE H locs _ ls hw dX4_raise_58
        · replace h := stF c6 h
          refine lv_bipush (v := -2) hx hb dX4_raise_26 (by decide) ?_
          obtain rfl := Option.some.inj h
          exact hE H locs _ ls hw dX4_raise_28
    · replace h := stT c4 h
      refine lv_iconst (v := -1) hx hb dX4_raise_14 (by decide) ?_
      obtain rfl := Option.some.inj h
      exact hE H locs _ ls hw dX4_raise_15
end
theorem dX4_turn_0 : decode cX4_turn 0 = .ok (.iload_n 1, 1) := by decide +kernel
theorem dX4_turn_1 : decode cX4_turn 1 = .ok (.invokestatic 132, 3) := by decide +kernel
theorem dX4_turn_4 : decode cX4_turn 4 = .ok (.ifCond .eq 10, 3) := by decide +kernel
theorem dX4_turn_7 : decode cX4_turn 7 = .ok (.iload_n 3, 1) := by decide +kernel
theorem dX4_turn_8 : decode cX4_turn 8 = .ok (.invokestatic 132, 3) := by decide +kernel
theorem dX4_turn_11 : decode cX4_turn 11 = .ok (.ifCond .ne 5, 3) := by decide +kernel
theorem dX4_turn_14 : decode cX4_turn 14 = .ok (.iconst (-1), 1) := by decide +kernel
theorem dX4_turn_15 : decode cX4_turn 15 = .ok (.ireturn, 1) := by decide +kernel
theorem dX4_turn_16 : decode cX4_turn 16 = .ok (.aload_n 0, 1) := by decide +kernel
theorem dX4_turn_17 : decode cX4_turn 17 = .ok (.getfield 32, 3) := by decide +kernel
theorem dX4_turn_20 : decode cX4_turn 20 = .ok (.aload_n 0, 1) := by decide +kernel
theorem dX4_turn_21 : decode cX4_turn 21 = .ok (.getfield 47, 3) := by decide +kernel
theorem dX4_turn_24 : decode cX4_turn 24 = .ok (.iload_n 1, 1) := by decide +kernel
theorem dX4_turn_25 : decode cX4_turn 25 = .ok (.aaload, 1) := by decide +kernel
theorem dX4_turn_26 : decode cX4_turn 26 = .ok (.iload_n 2, 1) := by decide +kernel
theorem dX4_turn_27 : decode cX4_turn 27 = .ok (.aload_n 0, 1) := by decide +kernel
theorem dX4_turn_28 : decode cX4_turn 28 = .ok (.getfield 47, 3) := by decide +kernel
theorem dX4_turn_31 : decode cX4_turn 31 = .ok (.iload_n 3, 1) := by decide +kernel
theorem dX4_turn_32 : decode cX4_turn 32 = .ok (.aaload, 1) := by decide +kernel
theorem dX4_turn_33 : decode cX4_turn 33 = .ok (.invokevirtual 152, 3) := by decide +kernel
theorem dX4_turn_36 : decode cX4_turn 36 = .ok (.iconst 1, 1) := by decide +kernel
theorem dX4_turn_37 : decode cX4_turn 37 = .ok (.ireturn, 1) := by decide +kernel
section
variable {p : Program} {l : Launch} {e : Env} {s : State} {m : MethodId} {args : Array Value} {below : List Frame} {meth : Method} {c : Code} {Q : State → Prop} {G : GG} {A : Nat → Prop} {q : Nat → Nat} {fr : va_W}
def f_X4_turn (ze : Int32) (M : Nat → Nat → Int64) (v1 : Int32) (v2 : Int32) (v3 : Int32) : Option (Int32 × (Nat → Nat → Int64)) :=
  (f_X4_isShelf v1).bind fun z1 =>
  if z1 = 0 then
  some ((-1), M)
  else
  (f_X4_isShelf v3).bind fun z3 =>
  if z3 = 0 then
  some ((-1), M)
  else
  if inb v1 4 then
  if inb v3 4 then
  (f_X2_turnRow ze M (0 + v1.toNatClampNeg) v2 (0 + v3.toNatClampNeg)).bind fun z7 =>
  some (1, z7)
  else none
  else none
set_option maxHeartbeats 4000000 in
set_option maxRecDepth 100000 in
theorem k_X4_turn {l : Launch} {G : GG} {q : Nat → Nat} {fr : va_W}  {zp : Int32} {ze : Int32} {zf : Int32} {zg : Int32} {zn : Int32} {aG : Nat → Int32} {aW : Nat → Int32} {aR : Nat → Int32} {aN : Nat → Int32} {aF : Nat → Int32} {lC : Nat → Int64} {lS : Nat → Int64} {lP : Nat → Int64} {lX : Nat → Int64} {ztc : Int32} {aTs : Nat → Int32} {aTn : Nat → Int32} {zoc : Int32} {aOs : Nat → Int32} {aOn : Nat → Int32} {aTp : Nat → Int32} {zln : Int32} {zpl : Int32} {zfa : Int32} {aSz : Nat → Int32} {zit : Int32} {zip : Int32} {zic : Int32} {zig : Int32} {M : Nat → Nat → Int64} {v1 : Int32} {v2 : Int32} {v3 : Int32} {z : Int32 × (Nat → Nat → Int64)}  (h : f_X4_turn ze M v1 v2 v3 = some z) : Ct l G yX4_turn cX4_turn 4 (some .int) 2 47 [.ref (q 21), .int v1, .int v2, .int v3] (kW G q zp ze zf zg zn aG aW aR aN aF lC lS lP lX ++ (oW G q ztc aTs aTn zoc aOs aOn aTp zln zpl zfa aSz zit zip zic zig M ++ fr)) (some (.int z.1)) (kW G q zp ze zf zg zn aG aW aR aN aF lC lS lP lX ++ (oW G q ztc aTs aTn zoc aOs aOn aTp zln zpl zfa aSz zit zip zic zig z.2 ++ fr)) := by
  refine Ct.of (by decide +kernel) (Nat.le_of_ble_eq_true rfl) trivial ?_
  intro p e s m args below meth c Q A ls F hw hA hE hl
  have hx := F.x
  have hb := F.b
  unfold f_X4_turn at h
  obtain ⟨H, hH⟩ : ∃ H, H = s.heap := ⟨_, rfl⟩
  obtain ⟨locs, hlo⟩ : ∃ locs : List Loc, locs = [] := ⟨_, rfl⟩
  rw [← hH, ← hlo] at hw ⊢
  have hl : lv_has ls 4 [(0, .ref (q 21)), (1, .int v1), (2, .int v2), (3, .int v3)] := hl
  refine lv_iload_n hx hb dX4_turn_0 rfl (lv_at hl 1 rfl) ?_
  obtain ⟨z1, hz1, h⟩ := stB h
  refine ctS (av := [.int v1]) (st0 := ([] : List Value)) (st1 := ([.int z1] : List Value)) F hw hA (k_X4_isShelf hz1) kl_4_132 kd_X4_isShelf rfl ⟨by decide, by decide⟩ hl.1 rfl (Nat.le_of_ble_eq_true rfl) dX4_turn_1 rfl (fun H locs hw => ?_)
  refine lv_if_eq (tgt := 14) hx hb dX4_turn_4 (by decide) (fun c2 => ?_) (fun c2 => ?_)
  · replace h := stT c2 h
    refine lv_iconst (v := -1) hx hb dX4_turn_14 (by decide) ?_
    obtain rfl := Option.some.inj h
    exact hE H locs _ ls hw dX4_turn_15
  · replace h := stF c2 h
    refine lv_iload_n hx hb dX4_turn_7 rfl (lv_at hl 3 rfl) ?_
    obtain ⟨z3, hz3, h⟩ := stB h
    refine ctS (av := [.int v3]) (st0 := ([] : List Value)) (st1 := ([.int z3] : List Value)) F hw hA (k_X4_isShelf hz3) kl_4_132 kd_X4_isShelf rfl ⟨by decide, by decide⟩ hl.1 rfl (Nat.le_of_ble_eq_true rfl) dX4_turn_8 rfl (fun H locs hw => ?_)
    refine lv_if_ne (tgt := 16) hx hb dX4_turn_11 (by decide) (fun c4 => ?_) (fun c4 => ?_)
    · replace h := stF c4 h
      refine lv_aload_n hx hb dX4_turn_16 rfl (lv_at hl 0 rfl) ?_
      refine gf_4_32 F hw dX4_turn_17 ?_
      refine lv_aload_n hx hb dX4_turn_20 rfl (lv_at hl 0 rfl) ?_
      refine gf_4_47 F hw dX4_turn_21 ?_
      refine lv_iload_n hx hb dX4_turn_24 rfl (lv_at hl 1 rfl) ?_
      obtain ⟨g5, h⟩ := stG h
      refine aq_c22 F hw g5 dX4_turn_25 ?_
      refine lv_iload_n hx hb dX4_turn_26 rfl (lv_at hl 2 rfl) ?_
      refine lv_aload_n hx hb dX4_turn_27 rfl (lv_at hl 0 rfl) ?_
      refine gf_4_47 F hw dX4_turn_28 ?_
      refine lv_iload_n hx hb dX4_turn_31 rfl (lv_at hl 3 rfl) ?_
      obtain ⟨g6, h⟩ := stG h
      refine aq_c22 F hw g6 dX4_turn_32 ?_
      obtain ⟨z7, hz7, h⟩ := stB h
      refine ctV (av := [.ref (q (26 + (0 + v1.toNatClampNeg))), .int v2, .ref (q (26 + (0 + v3.toNatClampNeg)))]) (st0 := ([] : List Value)) (st1 := ([] : List Value)) F hw hA (k_X2_turnRow (Nat.lt_of_lt_of_le (Nat.add_lt_add_left (inb_lt g5) 0) (by decide)) (Nat.lt_of_lt_of_le (Nat.add_lt_add_left (inb_lt g6) 0) (by decide)) hz7) kl_4_152 kd_X2_turnRow rfl ⟨by decide, by decide⟩ 15 rfl rfl hl.1 rfl (Nat.le_of_ble_eq_true rfl) dX4_turn_33 rfl (fun H locs hw => ?_)
      refine lv_iconst (v := 1) hx hb dX4_turn_36 (by decide) ?_
      obtain rfl := Option.some.inj h
      exact hE H locs _ ls hw dX4_turn_37
    · replace h := stT c4 h
      refine lv_iconst (v := -1) hx hb dX4_turn_14 (by decide) ?_
      obtain rfl := Option.some.inj h
      exact hE H locs _ ls hw dX4_turn_15
end
theorem dX4_norm_0 : decode cX4_norm 0 = .ok (.iload_n 1, 1) := by decide +kernel
theorem dX4_norm_1 : decode cX4_norm 1 = .ok (.invokestatic 132, 3) := by decide +kernel
theorem dX4_norm_4 : decode cX4_norm 4 = .ok (.ifCond .ne 7, 3) := by decide +kernel
theorem dX4_norm_7 : decode cX4_norm 7 = .ok (.ldc2_w 126, 3) := by decide +kernel
theorem dX4_norm_10 : decode cX4_norm 10 = .ok (.lreturn, 1) := by decide +kernel
theorem dX4_norm_11 : decode cX4_norm 11 = .ok (.aload_n 0, 1) := by decide +kernel
theorem dX4_norm_12 : decode cX4_norm 12 = .ok (.getfield 32, 3) := by decide +kernel
theorem dX4_norm_15 : decode cX4_norm 15 = .ok (.aload_n 0, 1) := by decide +kernel
theorem dX4_norm_16 : decode cX4_norm 16 = .ok (.getfield 47, 3) := by decide +kernel
theorem dX4_norm_19 : decode cX4_norm 19 = .ok (.iload_n 1, 1) := by decide +kernel
theorem dX4_norm_20 : decode cX4_norm 20 = .ok (.aaload, 1) := by decide +kernel
theorem dX4_norm_21 : decode cX4_norm 21 = .ok (.invokevirtual 156, 3) := by decide +kernel
theorem dX4_norm_24 : decode cX4_norm 24 = .ok (.lreturn, 1) := by decide +kernel
section
variable {p : Program} {l : Launch} {e : Env} {s : State} {m : MethodId} {args : Array Value} {below : List Frame} {meth : Method} {c : Code} {Q : State → Prop} {G : GG} {A : Nat → Prop} {q : Nat → Nat} {fr : va_W}
def f_X4_norm (ze : Int32) (aF : Nat → Int32) (ztc : Int32) (aTs : Nat → Int32) (aTn : Nat → Int32) (zoc : Int32) (aOs : Nat → Int32) (aOn : Nat → Int32) (M : Nat → Nat → Int64) (v1 : Int32) : Option (Int64 × Int32 × (Nat → Int32) × (Nat → Int32) × Int32 × (Nat → Int32) × (Nat → Int32) × (Nat → Nat → Int64)) :=
  (f_X4_isShelf v1).bind fun z1 =>
  if z1 = 0 then
  some ((-9223372036854775808), ztc, aTs, aTn, zoc, aOs, aOn, M)
  else
  if inb v1 4 then
  (f_X2_normOf ze aF ztc aTs aTn zoc aOs aOn M (0 + v1.toNatClampNeg)).bind fun z4 =>
  some (z4.1, z4.2.1, z4.2.2.1, z4.2.2.2.1, z4.2.2.2.2.1, z4.2.2.2.2.2.1, z4.2.2.2.2.2.2.1, z4.2.2.2.2.2.2.2)
  else none
set_option maxHeartbeats 4000000 in
set_option maxRecDepth 100000 in
theorem k_X4_norm {l : Launch} {G : GG} {q : Nat → Nat} {fr : va_W}  {zp : Int32} {ze : Int32} {zf : Int32} {zg : Int32} {zn : Int32} {aG : Nat → Int32} {aW : Nat → Int32} {aR : Nat → Int32} {aN : Nat → Int32} {aF : Nat → Int32} {lC : Nat → Int64} {lS : Nat → Int64} {lP : Nat → Int64} {lX : Nat → Int64} {ztc : Int32} {aTs : Nat → Int32} {aTn : Nat → Int32} {zoc : Int32} {aOs : Nat → Int32} {aOn : Nat → Int32} {aTp : Nat → Int32} {zln : Int32} {zpl : Int32} {zfa : Int32} {aSz : Nat → Int32} {zit : Int32} {zip : Int32} {zic : Int32} {zig : Int32} {M : Nat → Nat → Int64} {v1 : Int32} {z : Int64 × Int32 × (Nat → Int32) × (Nat → Int32) × Int32 × (Nat → Int32) × (Nat → Int32) × (Nat → Nat → Int64)}  (h : f_X4_norm ze aF ztc aTs aTn zoc aOs aOn M v1 = some z) : Ct l G yX4_norm cX4_norm 2 (some .long) 5 127 [.ref (q 21), .int v1] (kW G q zp ze zf zg zn aG aW aR aN aF lC lS lP lX ++ (oW G q ztc aTs aTn zoc aOs aOn aTp zln zpl zfa aSz zit zip zic zig M ++ fr)) (some (.long z.1)) (kW G q zp ze zf zg zn aG aW aR aN aF lC lS lP lX ++ (oW G q z.2.1 z.2.2.1 z.2.2.2.1 z.2.2.2.2.1 z.2.2.2.2.2.1 z.2.2.2.2.2.2.1 aTp zln zpl zfa aSz zit zip zic zig z.2.2.2.2.2.2.2 ++ fr)) := by
  refine Ct.of (by decide +kernel) (Nat.le_of_ble_eq_true rfl) trivial ?_
  intro p e s m args below meth c Q A ls F hw hA hE hl
  have hx := F.x
  have hb := F.b
  unfold f_X4_norm at h
  obtain ⟨H, hH⟩ : ∃ H, H = s.heap := ⟨_, rfl⟩
  obtain ⟨locs, hlo⟩ : ∃ locs : List Loc, locs = [] := ⟨_, rfl⟩
  rw [← hH, ← hlo] at hw ⊢
  have hl : lv_has ls 2 [(0, .ref (q 21)), (1, .int v1)] := hl
  refine lv_iload_n hx hb dX4_norm_0 rfl (lv_at hl 1 rfl) ?_
  obtain ⟨z1, hz1, h⟩ := stB h
  refine ctS (av := [.int v1]) (st0 := ([] : List Value)) (st1 := ([.int z1] : List Value)) F hw hA (k_X4_isShelf hz1) kl_4_132 kd_X4_isShelf rfl ⟨by decide, by decide⟩ hl.1 rfl (Nat.le_of_ble_eq_true rfl) dX4_norm_1 rfl (fun H locs hw => ?_)
  refine lv_if_ne (tgt := 11) hx hb dX4_norm_4 (by decide) (fun c2 => ?_) (fun c2 => ?_)
  · replace h := stF c2 h
    refine lv_aload_n hx hb dX4_norm_11 rfl (lv_at hl 0 rfl) ?_
    refine gf_4_32 F hw dX4_norm_12 ?_
    refine lv_aload_n hx hb dX4_norm_15 rfl (lv_at hl 0 rfl) ?_
    refine gf_4_47 F hw dX4_norm_16 ?_
    refine lv_iload_n hx hb dX4_norm_19 rfl (lv_at hl 1 rfl) ?_
    obtain ⟨g3, h⟩ := stG h
    refine aq_c22 F hw g3 dX4_norm_20 ?_
    obtain ⟨z4, hz4, h⟩ := stB h
    refine ctV (av := [.ref (q (26 + (0 + v1.toNatClampNeg)))]) (st0 := ([] : List Value)) (st1 := ([.long z4.1] : List Value)) F hw hA (k_X2_normOf (Nat.lt_of_lt_of_le (Nat.add_lt_add_left (inb_lt g3) 0) (by decide)) hz4) kl_4_156 kd_X2_normOf rfl ⟨by decide, by decide⟩ 15 rfl rfl hl.1 rfl (Nat.le_of_ble_eq_true rfl) dX4_norm_21 rfl (fun H locs hw => ?_)
    obtain rfl := Option.some.inj h
    exact hE H locs _ ls hw dX4_norm_24
  · replace h := stT c2 h
    refine lv_ldc2 (v := -9223372036854775808) hx hb F.ow (F.ts _ kc_4_126) dX4_norm_7 ?_
    obtain rfl := Option.some.inj h
    exact hE H locs _ ls hw dX4_norm_10
end
theorem dX4_trace_0 : decode cX4_trace 0 = .ok (.iload_n 1, 1) := by decide +kernel
theorem dX4_trace_1 : decode cX4_trace 1 = .ok (.invokestatic 132, 3) := by decide +kernel
theorem dX4_trace_4 : decode cX4_trace 4 = .ok (.ifCond .ne 7, 3) := by decide +kernel
theorem dX4_trace_7 : decode cX4_trace 7 = .ok (.ldc2_w 126, 3) := by decide +kernel
theorem dX4_trace_10 : decode cX4_trace 10 = .ok (.lreturn, 1) := by decide +kernel
theorem dX4_trace_11 : decode cX4_trace 11 = .ok (.aload_n 0, 1) := by decide +kernel
theorem dX4_trace_12 : decode cX4_trace 12 = .ok (.getfield 32, 3) := by decide +kernel
theorem dX4_trace_15 : decode cX4_trace 15 = .ok (.aload_n 0, 1) := by decide +kernel
theorem dX4_trace_16 : decode cX4_trace 16 = .ok (.getfield 47, 3) := by decide +kernel
theorem dX4_trace_19 : decode cX4_trace 19 = .ok (.iload_n 1, 1) := by decide +kernel
theorem dX4_trace_20 : decode cX4_trace 20 = .ok (.aaload, 1) := by decide +kernel
theorem dX4_trace_21 : decode cX4_trace 21 = .ok (.invokevirtual 160, 3) := by decide +kernel
theorem dX4_trace_24 : decode cX4_trace 24 = .ok (.lreturn, 1) := by decide +kernel
section
variable {p : Program} {l : Launch} {e : Env} {s : State} {m : MethodId} {args : Array Value} {below : List Frame} {meth : Method} {c : Code} {Q : State → Prop} {G : GG} {A : Nat → Prop} {q : Nat → Nat} {fr : va_W}
def f_X4_trace (ze : Int32) (ztc : Int32) (aTs : Nat → Int32) (aTn : Nat → Int32) (zoc : Int32) (aOs : Nat → Int32) (aOn : Nat → Int32) (M : Nat → Nat → Int64) (v1 : Int32) : Option (Int64 × Int32 × (Nat → Int32) × (Nat → Int32) × Int32) :=
  (f_X4_isShelf v1).bind fun z1 =>
  if z1 = 0 then
  some ((-9223372036854775808), ztc, aTs, aTn, zoc)
  else
  if inb v1 4 then
  (f_X2_traceOf ze ztc aTs aTn zoc aOs aOn M (0 + v1.toNatClampNeg)).bind fun z4 =>
  some (z4.1, z4.2.1, z4.2.2.1, z4.2.2.2.1, z4.2.2.2.2)
  else none
set_option maxHeartbeats 4000000 in
set_option maxRecDepth 100000 in
theorem k_X4_trace {l : Launch} {G : GG} {q : Nat → Nat} {fr : va_W}  {zp : Int32} {ze : Int32} {zf : Int32} {zg : Int32} {zn : Int32} {aG : Nat → Int32} {aW : Nat → Int32} {aR : Nat → Int32} {aN : Nat → Int32} {aF : Nat → Int32} {lC : Nat → Int64} {lS : Nat → Int64} {lP : Nat → Int64} {lX : Nat → Int64} {ztc : Int32} {aTs : Nat → Int32} {aTn : Nat → Int32} {zoc : Int32} {aOs : Nat → Int32} {aOn : Nat → Int32} {aTp : Nat → Int32} {zln : Int32} {zpl : Int32} {zfa : Int32} {aSz : Nat → Int32} {zit : Int32} {zip : Int32} {zic : Int32} {zig : Int32} {M : Nat → Nat → Int64} {v1 : Int32} {z : Int64 × Int32 × (Nat → Int32) × (Nat → Int32) × Int32}  (h : f_X4_trace ze ztc aTs aTn zoc aOs aOn M v1 = some z) : Ct l G yX4_trace cX4_trace 2 (some .long) 3 71 [.ref (q 21), .int v1] (kW G q zp ze zf zg zn aG aW aR aN aF lC lS lP lX ++ (oW G q ztc aTs aTn zoc aOs aOn aTp zln zpl zfa aSz zit zip zic zig M ++ fr)) (some (.long z.1)) (kW G q zp ze zf zg zn aG aW aR aN aF lC lS lP lX ++ (oW G q z.2.1 z.2.2.1 z.2.2.2.1 z.2.2.2.2 aOs aOn aTp zln zpl zfa aSz zit zip zic zig M ++ fr)) := by
  refine Ct.of (by decide +kernel) (Nat.le_of_ble_eq_true rfl) trivial ?_
  intro p e s m args below meth c Q A ls F hw hA hE hl
  have hx := F.x
  have hb := F.b
  unfold f_X4_trace at h
  obtain ⟨H, hH⟩ : ∃ H, H = s.heap := ⟨_, rfl⟩
  obtain ⟨locs, hlo⟩ : ∃ locs : List Loc, locs = [] := ⟨_, rfl⟩
  rw [← hH, ← hlo] at hw ⊢
  have hl : lv_has ls 2 [(0, .ref (q 21)), (1, .int v1)] := hl
  refine lv_iload_n hx hb dX4_trace_0 rfl (lv_at hl 1 rfl) ?_
  obtain ⟨z1, hz1, h⟩ := stB h
  refine ctS (av := [.int v1]) (st0 := ([] : List Value)) (st1 := ([.int z1] : List Value)) F hw hA (k_X4_isShelf hz1) kl_4_132 kd_X4_isShelf rfl ⟨by decide, by decide⟩ hl.1 rfl (Nat.le_of_ble_eq_true rfl) dX4_trace_1 rfl (fun H locs hw => ?_)
  refine lv_if_ne (tgt := 11) hx hb dX4_trace_4 (by decide) (fun c2 => ?_) (fun c2 => ?_)
  · replace h := stF c2 h
    refine lv_aload_n hx hb dX4_trace_11 rfl (lv_at hl 0 rfl) ?_
    refine gf_4_32 F hw dX4_trace_12 ?_
    refine lv_aload_n hx hb dX4_trace_15 rfl (lv_at hl 0 rfl) ?_
    refine gf_4_47 F hw dX4_trace_16 ?_
    refine lv_iload_n hx hb dX4_trace_19 rfl (lv_at hl 1 rfl) ?_
    obtain ⟨g3, h⟩ := stG h
    refine aq_c22 F hw g3 dX4_trace_20 ?_
    obtain ⟨z4, hz4, h⟩ := stB h
    refine ctV (av := [.ref (q (26 + (0 + v1.toNatClampNeg)))]) (st0 := ([] : List Value)) (st1 := ([.long z4.1] : List Value)) F hw hA (k_X2_traceOf (Nat.lt_of_lt_of_le (Nat.add_lt_add_left (inb_lt g3) 0) (by decide)) hz4) kl_4_160 kd_X2_traceOf rfl ⟨by decide, by decide⟩ 15 rfl rfl hl.1 rfl (Nat.le_of_ble_eq_true rfl) dX4_trace_21 rfl (fun H locs hw => ?_)
    obtain rfl := Option.some.inj h
    exact hE H locs _ ls hw dX4_trace_24
  · replace h := stT c2 h
    refine lv_ldc2 (v := -9223372036854775808) hx hb F.ow (F.ts _ kc_4_126) dX4_trace_7 ?_
    obtain rfl := Option.some.inj h
    exact hE H locs _ ls hw dX4_trace_10
end
theorem dX4_isWhole_0 : decode cX4_isWhole 0 = .ok (.iload_n 1, 1) := by decide +kernel
theorem dX4_isWhole_1 : decode cX4_isWhole 1 = .ok (.invokestatic 132, 3) := by decide +kernel
theorem dX4_isWhole_4 : decode cX4_isWhole 4 = .ok (.ifCond .ne 5, 3) := by decide +kernel
theorem dX4_isWhole_7 : decode cX4_isWhole 7 = .ok (.iconst (-1), 1) := by decide +kernel
theorem dX4_isWhole_8 : decode cX4_isWhole 8 = .ok (.ireturn, 1) := by decide +kernel
theorem dX4_isWhole_9 : decode cX4_isWhole 9 = .ok (.iconst 1, 1) := by decide +kernel
theorem dX4_isWhole_10 : decode cX4_isWhole 10 = .ok (.istore_n 2, 1) := by decide +kernel
theorem dX4_isWhole_11 : decode cX4_isWhole 11 = .ok (.iload_n 2, 1) := by decide +kernel
theorem dX4_isWhole_12 : decode cX4_isWhole 12 = .ok (.aload_n 0, 1) := by decide +kernel
theorem dX4_isWhole_13 : decode cX4_isWhole 13 = .ok (.getfield 14, 3) := by decide +kernel
theorem dX4_isWhole_16 : decode cX4_isWhole 16 = .ok (.getfield 75, 3) := by decide +kernel
theorem dX4_isWhole_19 : decode cX4_isWhole 19 = .ok (.if_icmp .ge 31, 3) := by decide +kernel
theorem dX4_isWhole_22 : decode cX4_isWhole 22 = .ok (.aload_n 0, 1) := by decide +kernel
theorem dX4_isWhole_23 : decode cX4_isWhole 23 = .ok (.getfield 47, 3) := by decide +kernel
theorem dX4_isWhole_26 : decode cX4_isWhole 26 = .ok (.iload_n 1, 1) := by decide +kernel
theorem dX4_isWhole_27 : decode cX4_isWhole 27 = .ok (.aaload, 1) := by decide +kernel
theorem dX4_isWhole_28 : decode cX4_isWhole 28 = .ok (.iload_n 2, 1) := by decide +kernel
theorem dX4_isWhole_29 : decode cX4_isWhole 29 = .ok (.laload, 1) := by decide +kernel
theorem dX4_isWhole_30 : decode cX4_isWhole 30 = .ok (.aload_n 0, 1) := by decide +kernel
theorem dX4_isWhole_31 : decode cX4_isWhole 31 = .ok (.getfield 47, 3) := by decide +kernel
theorem dX4_isWhole_34 : decode cX4_isWhole 34 = .ok (.iload_n 1, 1) := by decide +kernel
theorem dX4_isWhole_35 : decode cX4_isWhole 35 = .ok (.aaload, 1) := by decide +kernel
theorem dX4_isWhole_36 : decode cX4_isWhole 36 = .ok (.iconst 0, 1) := by decide +kernel
theorem dX4_isWhole_37 : decode cX4_isWhole 37 = .ok (.laload, 1) := by decide +kernel
theorem dX4_isWhole_38 : decode cX4_isWhole 38 = .ok (.lcmp, 1) := by decide +kernel
theorem dX4_isWhole_39 : decode cX4_isWhole 39 = .ok (.ifCond .eq 5, 3) := by decide +kernel
theorem dX4_isWhole_42 : decode cX4_isWhole 42 = .ok (.iconst 0, 1) := by decide +kernel
theorem dX4_isWhole_43 : decode cX4_isWhole 43 = .ok (.ireturn, 1) := by decide +kernel
theorem dX4_isWhole_44 : decode cX4_isWhole 44 = .ok (.iinc 2 1, 3) := by decide +kernel
theorem dX4_isWhole_47 : decode cX4_isWhole 47 = .ok (.goto (-36), 3) := by decide +kernel
theorem dX4_isWhole_50 : decode cX4_isWhole 50 = .ok (.iconst 1, 1) := by decide +kernel
theorem dX4_isWhole_51 : decode cX4_isWhole 51 = .ok (.ireturn, 1) := by decide +kernel
section
variable {p : Program} {l : Launch} {e : Env} {s : State} {m : MethodId} {args : Array Value} {below : List Frame} {meth : Method} {c : Code} {Q : State → Prop} {G : GG} {A : Nat → Prop} {q : Nat → Nat} {fr : va_W}
def f_X4_isWhole_L11 (ze : Int32) (M : Nat → Nat → Int64) (v1 : Int32) : Nat → Int32 → Option (Int32)
  | 0, _ => none
  | fu + 1, v2 =>
    if ze ≤ v2 then
    some 1
    else
    if inb v1 4 then
    if inb v2 (rl (0 + v1.toNatClampNeg)) then
    if inb v1 4 then
    if inb 0 (rl (0 + v1.toNatClampNeg)) then
    if (lg_cmp (M (0 + v1.toNatClampNeg) v2.toNatClampNeg) (M (0 + v1.toNatClampNeg) (0 : Int32).toNatClampNeg)) = 0 then
    f_X4_isWhole_L11 ze M v1 fu (v2 + 1)
    else
    some 0
    else none
    else none
    else none
    else none
set_option maxHeartbeats 4000000 in
set_option maxRecDepth 100000 in
theorem w_X4_isWhole_L11  {zp : Int32} {ze : Int32} {zf : Int32} {zg : Int32} {zn : Int32} {aG : Nat → Int32} {aW : Nat → Int32} {aR : Nat → Int32} {aN : Nat → Int32} {aF : Nat → Int32} {lC : Nat → Int64} {lS : Nat → Int64} {lP : Nat → Int64} {lX : Nat → Int64} {ztc : Int32} {aTs : Nat → Int32} {aTn : Nat → Int32} {zoc : Int32} {aOs : Nat → Int32} {aOn : Nat → Int32} {aTp : Nat → Int32} {zln : Int32} {zpl : Int32} {zfa : Int32} {aSz : Nat → Int32} {zit : Int32} {zip : Int32} {zic : Int32} {zig : Int32} {M : Nat → Nat → Int64} {v1 : Int32}  (F : Fx p s m args meth c cX4_isWhole 3 RX4 (some .int)) (hA : ∀ q, s.heap.size ≤ q → A q)   : ∀ (fu : Nat) (v2 : Int32) (z : Int32), f_X4_isWhole_L11 ze M v1 fu v2 = some z → Ends p l e (rmOf 1 20) s m args below meth c Q cX4_isWhole G A (some .int) (some (.int z)) (kW G q zp ze zf zg zn aG aW aR aN aF lC lS lP lX ++ (oW G q ztc aTs aTn zoc aOs aOn aTp zln zpl zfa aSz zit zip zic zig M ++ fr)) → ∀ (H : Heap) (locs : List Loc) (ls : Array Slot), Wd G s A (kW G q zp ze zf zg zn aG aW aR aN aF lC lS lP lX ++ (oW G q ztc aTs aTn zoc aOs aOn aTp zln zpl zfa aSz zit zip zic zig M ++ fr)) H locs → lv_has ls 3 [(0, .ref (q 21)), (1, .int v1), (2, .int v2)] → W p l e (rmOf 1 20) s m args below meth c H locs 0 0 Q (F0 m 11 ls []) := by
  have hx := F.x
  have hb := F.b
  intro fu
  induction fu with
  | zero =>
    intro v2 z h
    cases (h : none = some z)
  | succ fu ih =>
    intro v2 z h hE H locs ls hw hl
    rw [f_X4_isWhole_L11] at h
    refine lv_iload_n hx hb dX4_isWhole_11 rfl (lv_at hl 2 rfl) ?_
    refine lv_aload_n hx hb dX4_isWhole_12 rfl (lv_at hl 0 rfl) ?_
    refine gf_4_14 F hw dX4_isWhole_13 ?_
    refine gf_4_75 F hw dX4_isWhole_16 ?_
    refine lv_icmp_ge (tgt := 50) hx hb dX4_isWhole_19 (by decide) (fun c1 => ?_) (fun c1 => ?_)
    · replace h := stT c1 h
      refine lv_iconst (v := 1) hx hb dX4_isWhole_50 (by decide) ?_
      obtain rfl := Option.some.inj h
      exact hE H locs _ ls hw dX4_isWhole_51
    · replace h := stF c1 h
      refine lv_aload_n hx hb dX4_isWhole_22 rfl (lv_at hl 0 rfl) ?_
      refine gf_4_47 F hw dX4_isWhole_23 ?_
      refine lv_iload_n hx hb dX4_isWhole_26 rfl (lv_at hl 1 rfl) ?_
      obtain ⟨g2, h⟩ := stG h
      refine aq_c22 F hw g2 dX4_isWhole_27 ?_
      refine lv_iload_n hx hb dX4_isWhole_28 rfl (lv_at hl 2 rfl) ?_
      obtain ⟨g3, h⟩ := stG h
      refine al_row F hw (Nat.lt_of_lt_of_le (Nat.add_lt_add_left (inb_lt g2) 0) (by decide)) g3 dX4_isWhole_29 ?_
      refine lv_aload_n hx hb dX4_isWhole_30 rfl (lv_at hl 0 rfl) ?_
      refine gf_4_47 F hw dX4_isWhole_31 ?_
      refine lv_iload_n hx hb dX4_isWhole_34 rfl (lv_at hl 1 rfl) ?_
      obtain ⟨g4, h⟩ := stG h
      refine aq_c22 F hw g4 dX4_isWhole_35 ?_
      refine lv_iconst (v := 0) hx hb dX4_isWhole_36 (by decide) ?_
      obtain ⟨g5, h⟩ := stG h
      refine al_row F hw (Nat.lt_of_lt_of_le (Nat.add_lt_add_left (inb_lt g4) 0) (by decide)) g5 dX4_isWhole_37 ?_
      refine W.lcmp hx hb dX4_isWhole_38 ?_
      refine lv_if_eq (tgt := 44) hx hb dX4_isWhole_39 (by decide) (fun c6 => ?_) (fun c6 => ?_)
      · replace h := stT c6 h
        refine lv_iinc (v := (v2 + 1)) (lv' := [(2, .int (v2 + 1)), (0, .ref (q 21)), (1, .int v1)]) hx hb dX4_isWhole_44 hl (k := 2) rfl rfl (by decide) rfl (fun ls hl => ?_)
        refine lv_goto (tgt := 11) hx hb dX4_isWhole_47 (by decide) ?_
        exact ih _ z h hE H locs ls hw (lv_sub hl [1, 2, 0] rfl)
      · replace h := stF c6 h
        refine lv_iconst (v := 0) hx hb dX4_isWhole_42 (by decide) ?_
        obtain rfl := Option.some.inj h
        exact hE H locs _ ls hw dX4_isWhole_43
def f_X4_isWhole (ze : Int32) (M : Nat → Nat → Int64) (v1 : Int32) : Option (Int32) :=
  (f_X4_isShelf v1).bind fun z1 =>
  if z1 = 0 then
  some (-1)
  else
  f_X4_isWhole_L11 ze M v1 FU 1
set_option maxHeartbeats 4000000 in
set_option maxRecDepth 100000 in
theorem k_X4_isWhole {l : Launch} {G : GG} {q : Nat → Nat} {fr : va_W}  {zp : Int32} {ze : Int32} {zf : Int32} {zg : Int32} {zn : Int32} {aG : Nat → Int32} {aW : Nat → Int32} {aR : Nat → Int32} {aN : Nat → Int32} {aF : Nat → Int32} {lC : Nat → Int64} {lS : Nat → Int64} {lP : Nat → Int64} {lX : Nat → Int64} {ztc : Int32} {aTs : Nat → Int32} {aTn : Nat → Int32} {zoc : Int32} {aOs : Nat → Int32} {aOn : Nat → Int32} {aTp : Nat → Int32} {zln : Int32} {zpl : Int32} {zfa : Int32} {aSz : Nat → Int32} {zit : Int32} {zip : Int32} {zic : Int32} {zig : Int32} {M : Nat → Nat → Int64} {v1 : Int32} {z : Int32}  (h : f_X4_isWhole ze M v1 = some z) : Ct l G yX4_isWhole cX4_isWhole 3 (some .int) 1 20 [.ref (q 21), .int v1] (kW G q zp ze zf zg zn aG aW aR aN aF lC lS lP lX ++ (oW G q ztc aTs aTn zoc aOs aOn aTp zln zpl zfa aSz zit zip zic zig M ++ fr)) (some (.int z)) (kW G q zp ze zf zg zn aG aW aR aN aF lC lS lP lX ++ (oW G q ztc aTs aTn zoc aOs aOn aTp zln zpl zfa aSz zit zip zic zig M ++ fr)) := by
  refine Ct.of (by decide +kernel) (Nat.le_of_ble_eq_true rfl) trivial ?_
  intro p e s m args below meth c Q A ls F hw hA hE hl
  have hx := F.x
  have hb := F.b
  unfold f_X4_isWhole at h
  obtain ⟨H, hH⟩ : ∃ H, H = s.heap := ⟨_, rfl⟩
  obtain ⟨locs, hlo⟩ : ∃ locs : List Loc, locs = [] := ⟨_, rfl⟩
  rw [← hH, ← hlo] at hw ⊢
  have hl : lv_has ls 3 [(0, .ref (q 21)), (1, .int v1)] := hl
  refine lv_iload_n hx hb dX4_isWhole_0 rfl (lv_at hl 1 rfl) ?_
  obtain ⟨z1, hz1, h⟩ := stB h
  refine ctS (av := [.int v1]) (st0 := ([] : List Value)) (st1 := ([.int z1] : List Value)) F hw hA (k_X4_isShelf hz1) kl_4_132 kd_X4_isShelf rfl ⟨by decide, by decide⟩ hl.1 rfl (Nat.le_of_ble_eq_true rfl) dX4_isWhole_1 rfl (fun H locs hw => ?_)
  refine lv_if_ne (tgt := 9) hx hb dX4_isWhole_4 (by decide) (fun c2 => ?_) (fun c2 => ?_)
  · replace h := stF c2 h
    refine lv_iconst (v := 1) hx hb dX4_isWhole_9 (by decide) ?_
    refine lv_istore_n (lv' := [(2, .int 1), (0, .ref (q 21)), (1, .int v1)]) hx hb dX4_isWhole_10 rfl hl (by decide) rfl (fun ls hl => ?_)
    exact w_X4_isWhole_L11 F hA  FU _ z h hE H locs ls hw (lv_sub hl [1, 2, 0] rfl)
  · replace h := stT c2 h
    refine lv_iconst (v := -1) hx hb dX4_isWhole_7 (by decide) ?_
    obtain rfl := Option.some.inj h
    exact hE H locs _ ls hw dX4_isWhole_8
end
theorem dX4_isTurnedBy_0 : decode cX4_isTurnedBy 0 = .ok (.iconst 0, 1) := by decide +kernel
theorem dX4_isTurnedBy_1 : decode cX4_isTurnedBy 1 = .ok (.istore 4, 2) := by decide +kernel
theorem dX4_isTurnedBy_3 : decode cX4_isTurnedBy 3 = .ok (.iload 4, 2) := by decide +kernel
theorem dX4_isTurnedBy_5 : decode cX4_isTurnedBy 5 = .ok (.aload_n 0, 1) := by decide +kernel
theorem dX4_isTurnedBy_6 : decode cX4_isTurnedBy 6 = .ok (.getfield 14, 3) := by decide +kernel
theorem dX4_isTurnedBy_9 : decode cX4_isTurnedBy 9 = .ok (.getfield 75, 3) := by decide +kernel
theorem dX4_isTurnedBy_12 : decode cX4_isTurnedBy 12 = .ok (.if_icmp .ge 33, 3) := by decide +kernel
theorem dX4_isTurnedBy_15 : decode cX4_isTurnedBy 15 = .ok (.aload_n 3, 1) := by decide +kernel
theorem dX4_isTurnedBy_16 : decode cX4_isTurnedBy 16 = .ok (.iload 4, 2) := by decide +kernel
theorem dX4_isTurnedBy_18 : decode cX4_isTurnedBy 18 = .ok (.iload_n 2, 1) := by decide +kernel
theorem dX4_isTurnedBy_19 : decode cX4_isTurnedBy 19 = .ok (.iadd, 1) := by decide +kernel
theorem dX4_isTurnedBy_20 : decode cX4_isTurnedBy 20 = .ok (.aload_n 0, 1) := by decide +kernel
theorem dX4_isTurnedBy_21 : decode cX4_isTurnedBy 21 = .ok (.getfield 14, 3) := by decide +kernel
theorem dX4_isTurnedBy_24 : decode cX4_isTurnedBy 24 = .ok (.getfield 75, 3) := by decide +kernel
theorem dX4_isTurnedBy_27 : decode cX4_isTurnedBy 27 = .ok (.irem, 1) := by decide +kernel
theorem dX4_isTurnedBy_28 : decode cX4_isTurnedBy 28 = .ok (.laload, 1) := by decide +kernel
theorem dX4_isTurnedBy_29 : decode cX4_isTurnedBy 29 = .ok (.aload_n 1, 1) := by decide +kernel
theorem dX4_isTurnedBy_30 : decode cX4_isTurnedBy 30 = .ok (.iload 4, 2) := by decide +kernel
theorem dX4_isTurnedBy_32 : decode cX4_isTurnedBy 32 = .ok (.laload, 1) := by decide +kernel
theorem dX4_isTurnedBy_33 : decode cX4_isTurnedBy 33 = .ok (.lcmp, 1) := by decide +kernel
theorem dX4_isTurnedBy_34 : decode cX4_isTurnedBy 34 = .ok (.ifCond .eq 5, 3) := by decide +kernel
theorem dX4_isTurnedBy_37 : decode cX4_isTurnedBy 37 = .ok (.iconst 0, 1) := by decide +kernel
theorem dX4_isTurnedBy_38 : decode cX4_isTurnedBy 38 = .ok (.ireturn, 1) := by decide +kernel
theorem dX4_isTurnedBy_39 : decode cX4_isTurnedBy 39 = .ok (.iinc 4 1, 3) := by decide +kernel
theorem dX4_isTurnedBy_42 : decode cX4_isTurnedBy 42 = .ok (.goto (-39), 3) := by decide +kernel
theorem dX4_isTurnedBy_45 : decode cX4_isTurnedBy 45 = .ok (.iconst 1, 1) := by decide +kernel
theorem dX4_isTurnedBy_46 : decode cX4_isTurnedBy 46 = .ok (.ireturn, 1) := by decide +kernel
section
variable {p : Program} {l : Launch} {e : Env} {s : State} {m : MethodId} {args : Array Value} {below : List Frame} {meth : Method} {c : Code} {Q : State → Prop} {G : GG} {A : Nat → Prop} {q : Nat → Nat} {fr : va_W}
def f_X4_isTurnedBy_L3 (ze : Int32) (M : Nat → Nat → Int64) (r1 : Nat) (v2 : Int32) (r3 : Nat) : Nat → Int32 → Option (Int32)
  | 0, _ => none
  | fu + 1, v4 =>
    if ze ≤ v4 then
    some 1
    else
    if ze = 0 then none else
    if inb ((v4 + v2) - (v4 + v2) / ze * ze) (rl r3) then
    if inb v4 (rl r1) then
    if (lg_cmp (M r3 ((v4 + v2) - (v4 + v2) / ze * ze).toNatClampNeg) (M r1 v4.toNatClampNeg)) = 0 then
    f_X4_isTurnedBy_L3 ze M r1 v2 r3 fu (v4 + 1)
    else
    some 0
    else none
    else none
set_option maxHeartbeats 4000000 in
set_option maxRecDepth 100000 in
theorem w_X4_isTurnedBy_L3  {zp : Int32} {ze : Int32} {zf : Int32} {zg : Int32} {zn : Int32} {aG : Nat → Int32} {aW : Nat → Int32} {aR : Nat → Int32} {aN : Nat → Int32} {aF : Nat → Int32} {lC : Nat → Int64} {lS : Nat → Int64} {lP : Nat → Int64} {lX : Nat → Int64} {ztc : Int32} {aTs : Nat → Int32} {aTn : Nat → Int32} {zoc : Int32} {aOs : Nat → Int32} {aOn : Nat → Int32} {aTp : Nat → Int32} {zln : Int32} {zpl : Int32} {zfa : Int32} {aSz : Nat → Int32} {zit : Int32} {zip : Int32} {zic : Int32} {zig : Int32} {M : Nat → Nat → Int64} {r1 : Nat} {v2 : Int32} {r3 : Nat}  (F : Fx p s m args meth c cX4_isTurnedBy 5 RX4 (some .boolean)) (hA : ∀ q, s.heap.size ≤ q → A q) (hr1 : r1 < 32) (hr3 : r3 < 32)  : ∀ (fu : Nat) (v4 : Int32) (z : Int32), f_X4_isTurnedBy_L3 ze M r1 v2 r3 fu v4 = some z → Ends p l e (rmOf 0 0) s m args below meth c Q cX4_isTurnedBy G A (some .boolean) (some (.int z)) (kW G q zp ze zf zg zn aG aW aR aN aF lC lS lP lX ++ (oW G q ztc aTs aTn zoc aOs aOn aTp zln zpl zfa aSz zit zip zic zig M ++ fr)) → ∀ (H : Heap) (locs : List Loc) (ls : Array Slot), Wd G s A (kW G q zp ze zf zg zn aG aW aR aN aF lC lS lP lX ++ (oW G q ztc aTs aTn zoc aOs aOn aTp zln zpl zfa aSz zit zip zic zig M ++ fr)) H locs → lv_has ls 5 [(0, .ref (q 21)), (1, .ref (q (26 + r1))), (2, .int v2), (3, .ref (q (26 + r3))), (4, .int v4)] → W p l e (rmOf 0 0) s m args below meth c H locs 0 0 Q (F0 m 3 ls []) := by
  have hx := F.x
  have hb := F.b
  intro fu
  induction fu with
  | zero =>
    intro v4 z h
    cases (h : none = some z)
  | succ fu ih =>
    intro v4 z h hE H locs ls hw hl
    rw [f_X4_isTurnedBy_L3] at h
    refine lv_iload hx hb dX4_isTurnedBy_3 (lv_at hl 4 rfl) ?_
    refine lv_aload_n hx hb dX4_isTurnedBy_5 rfl (lv_at hl 0 rfl) ?_
    refine gf_4_14 F hw dX4_isTurnedBy_6 ?_
    refine gf_4_75 F hw dX4_isTurnedBy_9 ?_
    refine lv_icmp_ge (tgt := 45) hx hb dX4_isTurnedBy_12 (by decide) (fun c1 => ?_) (fun c1 => ?_)
    · replace h := stT c1 h
      refine lv_iconst (v := 1) hx hb dX4_isTurnedBy_45 (by decide) ?_
      obtain rfl := Option.some.inj h
      exact hE H locs _ ls hw (Or.inr rfl) dX4_isTurnedBy_46
    · replace h := stF c1 h
      refine lv_aload_n hx hb dX4_isTurnedBy_15 rfl (lv_at hl 3 rfl) ?_
      refine lv_iload hx hb dX4_isTurnedBy_16 (lv_at hl 4 rfl) ?_
      refine lv_iload_n hx hb dX4_isTurnedBy_18 rfl (lv_at hl 2 rfl) ?_
      refine lv_iadd hx hb dX4_isTurnedBy_19 ?_
      refine lv_aload_n hx hb dX4_isTurnedBy_20 rfl (lv_at hl 0 rfl) ?_
      refine gf_4_14 F hw dX4_isTurnedBy_21 ?_
      refine gf_4_75 F hw dX4_isTurnedBy_24 ?_
      obtain ⟨g2, h⟩ := stD h
      refine lv_irem hx hb dX4_isTurnedBy_27 g2 ?_
      obtain ⟨g3, h⟩ := stG h
      refine al_row F hw hr3 g3 dX4_isTurnedBy_28 ?_
      refine lv_aload_n hx hb dX4_isTurnedBy_29 rfl (lv_at hl 1 rfl) ?_
      refine lv_iload hx hb dX4_isTurnedBy_30 (lv_at hl 4 rfl) ?_
      obtain ⟨g4, h⟩ := stG h
      refine al_row F hw hr1 g4 dX4_isTurnedBy_32 ?_
      refine W.lcmp hx hb dX4_isTurnedBy_33 ?_
      refine lv_if_eq (tgt := 39) hx hb dX4_isTurnedBy_34 (by decide) (fun c5 => ?_) (fun c5 => ?_)
      · replace h := stT c5 h
        refine lv_iinc (v := (v4 + 1)) (lv' := [(4, .int (v4 + 1)), (0, .ref (q 21)), (1, .ref (q (26 + r1))), (2, .int v2), (3, .ref (q (26 + r3)))]) hx hb dX4_isTurnedBy_39 hl (k := 4) rfl rfl (by decide) rfl (fun ls hl => ?_)
        refine lv_goto (tgt := 3) hx hb dX4_isTurnedBy_42 (by decide) ?_
        exact ih _ z h hE H locs ls hw (lv_sub hl [1, 2, 3, 4, 0] rfl)
      · replace h := stF c5 h
        refine lv_iconst (v := 0) hx hb dX4_isTurnedBy_37 (by decide) ?_
        obtain rfl := Option.some.inj h
        exact hE H locs _ ls hw (Or.inl rfl) dX4_isTurnedBy_38
def f_X4_isTurnedBy (ze : Int32) (M : Nat → Nat → Int64) (r1 : Nat) (v2 : Int32) (r3 : Nat) : Option (Int32) :=
  f_X4_isTurnedBy_L3 ze M r1 v2 r3 FU 0
set_option maxHeartbeats 4000000 in
set_option maxRecDepth 100000 in
theorem k_X4_isTurnedBy {l : Launch} {G : GG} {q : Nat → Nat} {fr : va_W}  {zp : Int32} {ze : Int32} {zf : Int32} {zg : Int32} {zn : Int32} {aG : Nat → Int32} {aW : Nat → Int32} {aR : Nat → Int32} {aN : Nat → Int32} {aF : Nat → Int32} {lC : Nat → Int64} {lS : Nat → Int64} {lP : Nat → Int64} {lX : Nat → Int64} {ztc : Int32} {aTs : Nat → Int32} {aTn : Nat → Int32} {zoc : Int32} {aOs : Nat → Int32} {aOn : Nat → Int32} {aTp : Nat → Int32} {zln : Int32} {zpl : Int32} {zfa : Int32} {aSz : Nat → Int32} {zit : Int32} {zip : Int32} {zic : Int32} {zig : Int32} {M : Nat → Nat → Int64} {r1 : Nat} {v2 : Int32} {r3 : Nat} {z : Int32} (hr1 : r1 < 32) (hr3 : r3 < 32) (h : f_X4_isTurnedBy ze M r1 v2 r3 = some z) : Ct l G yX4_isTurnedBy cX4_isTurnedBy 5 (some .boolean) 0 0 [.ref (q 21), .ref (q (26 + r1)), .int v2, .ref (q (26 + r3))] (kW G q zp ze zf zg zn aG aW aR aN aF lC lS lP lX ++ (oW G q ztc aTs aTn zoc aOs aOn aTp zln zpl zfa aSz zit zip zic zig M ++ fr)) (some (.int z)) (kW G q zp ze zf zg zn aG aW aR aN aF lC lS lP lX ++ (oW G q ztc aTs aTn zoc aOs aOn aTp zln zpl zfa aSz zit zip zic zig M ++ fr)) := by
  refine Ct.of (by decide +kernel) (Nat.le_of_ble_eq_true rfl) trivial ?_
  intro p e s m args below meth c Q A ls F hw hA hE hl
  have hx := F.x
  have hb := F.b
  unfold f_X4_isTurnedBy at h
  obtain ⟨H, hH⟩ : ∃ H, H = s.heap := ⟨_, rfl⟩
  obtain ⟨locs, hlo⟩ : ∃ locs : List Loc, locs = [] := ⟨_, rfl⟩
  rw [← hH, ← hlo] at hw ⊢
  have hl : lv_has ls 5 [(0, .ref (q 21)), (1, .ref (q (26 + r1))), (2, .int v2), (3, .ref (q (26 + r3)))] := hl
  refine lv_iconst (v := 0) hx hb dX4_isTurnedBy_0 (by decide) ?_
  refine lv_istore (lv' := [(4, .int 0), (0, .ref (q 21)), (1, .ref (q (26 + r1))), (2, .int v2), (3, .ref (q (26 + r3)))]) hx hb dX4_isTurnedBy_1 hl (by decide) rfl (fun ls hl => ?_)
  exact w_X4_isTurnedBy_L3 F hA hr1 hr3 FU _ z h hE H locs ls hw (lv_sub hl [1, 2, 3, 4, 0] rfl)
end
theorem dX4_alike_0 : decode cX4_alike 0 = .ok (.iload_n 1, 1) := by decide +kernel
theorem dX4_alike_1 : decode cX4_alike 1 = .ok (.invokestatic 132, 3) := by decide +kernel
theorem dX4_alike_4 : decode cX4_alike 4 = .ok (.ifCond .eq 10, 3) := by decide +kernel
theorem dX4_alike_7 : decode cX4_alike 7 = .ok (.iload_n 2, 1) := by decide +kernel
theorem dX4_alike_8 : decode cX4_alike 8 = .ok (.invokestatic 132, 3) := by decide +kernel
theorem dX4_alike_11 : decode cX4_alike 11 = .ok (.ifCond .ne 5, 3) := by decide +kernel
theorem dX4_alike_14 : decode cX4_alike 14 = .ok (.iconst (-1), 1) := by decide +kernel
theorem dX4_alike_15 : decode cX4_alike 15 = .ok (.ireturn, 1) := by decide +kernel
theorem dX4_alike_16 : decode cX4_alike 16 = .ok (.iconst 0, 1) := by decide +kernel
theorem dX4_alike_17 : decode cX4_alike 17 = .ok (.istore_n 3, 1) := by decide +kernel
theorem dX4_alike_18 : decode cX4_alike 18 = .ok (.iload_n 3, 1) := by decide +kernel
theorem dX4_alike_19 : decode cX4_alike 19 = .ok (.aload_n 0, 1) := by decide +kernel
theorem dX4_alike_20 : decode cX4_alike 20 = .ok (.getfield 14, 3) := by decide +kernel
theorem dX4_alike_23 : decode cX4_alike 23 = .ok (.getfield 75, 3) := by decide +kernel
theorem dX4_alike_26 : decode cX4_alike 26 = .ok (.if_icmp .ge 31, 3) := by decide +kernel
theorem dX4_alike_29 : decode cX4_alike 29 = .ok (.aload_n 0, 1) := by decide +kernel
theorem dX4_alike_30 : decode cX4_alike 30 = .ok (.aload_n 0, 1) := by decide +kernel
theorem dX4_alike_31 : decode cX4_alike 31 = .ok (.getfield 47, 3) := by decide +kernel
theorem dX4_alike_34 : decode cX4_alike 34 = .ok (.iload_n 1, 1) := by decide +kernel
theorem dX4_alike_35 : decode cX4_alike 35 = .ok (.aaload, 1) := by decide +kernel
theorem dX4_alike_36 : decode cX4_alike 36 = .ok (.iload_n 3, 1) := by decide +kernel
theorem dX4_alike_37 : decode cX4_alike 37 = .ok (.aload_n 0, 1) := by decide +kernel
theorem dX4_alike_38 : decode cX4_alike 38 = .ok (.getfield 47, 3) := by decide +kernel
theorem dX4_alike_41 : decode cX4_alike 41 = .ok (.iload_n 2, 1) := by decide +kernel
theorem dX4_alike_42 : decode cX4_alike 42 = .ok (.aaload, 1) := by decide +kernel
theorem dX4_alike_43 : decode cX4_alike 43 = .ok (.invokevirtual 163, 3) := by decide +kernel
theorem dX4_alike_46 : decode cX4_alike 46 = .ok (.ifCond .eq 5, 3) := by decide +kernel
theorem dX4_alike_49 : decode cX4_alike 49 = .ok (.iload_n 3, 1) := by decide +kernel
theorem dX4_alike_50 : decode cX4_alike 50 = .ok (.ireturn, 1) := by decide +kernel
theorem dX4_alike_51 : decode cX4_alike 51 = .ok (.iinc 3 1, 3) := by decide +kernel
theorem dX4_alike_54 : decode cX4_alike 54 = .ok (.goto (-36), 3) := by decide +kernel
theorem dX4_alike_57 : decode cX4_alike 57 = .ok (.bipush (-5), 2) := by decide +kernel
theorem dX4_alike_59 : decode cX4_alike 59 = .ok (.ireturn, 1) := by decide +kernel
section
variable {p : Program} {l : Launch} {e : Env} {s : State} {m : MethodId} {args : Array Value} {below : List Frame} {meth : Method} {c : Code} {Q : State → Prop} {G : GG} {A : Nat → Prop} {q : Nat → Nat} {fr : va_W}
def f_X4_alike_L18 (ze : Int32) (M : Nat → Nat → Int64) (v1 : Int32) (v2 : Int32) : Nat → Int32 → Option (Int32)
  | 0, _ => none
  | fu + 1, v3 =>
    if ze ≤ v3 then
    some (-5)
    else
    if inb v1 4 then
    if inb v2 4 then
    (f_X4_isTurnedBy ze M (0 + v1.toNatClampNeg) v3 (0 + v2.toNatClampNeg)).bind fun z4 =>
    if z4 = 0 then
    f_X4_alike_L18 ze M v1 v2 fu (v3 + 1)
    else
    some v3
    else none
    else none
set_option maxHeartbeats 4000000 in
set_option maxRecDepth 100000 in
theorem w_X4_alike_L18  {zp : Int32} {ze : Int32} {zf : Int32} {zg : Int32} {zn : Int32} {aG : Nat → Int32} {aW : Nat → Int32} {aR : Nat → Int32} {aN : Nat → Int32} {aF : Nat → Int32} {lC : Nat → Int64} {lS : Nat → Int64} {lP : Nat → Int64} {lX : Nat → Int64} {ztc : Int32} {aTs : Nat → Int32} {aTn : Nat → Int32} {zoc : Int32} {aOs : Nat → Int32} {aOn : Nat → Int32} {aTp : Nat → Int32} {zln : Int32} {zpl : Int32} {zfa : Int32} {aSz : Nat → Int32} {zit : Int32} {zip : Int32} {zic : Int32} {zig : Int32} {M : Nat → Nat → Int64} {v1 : Int32} {v2 : Int32}  (F : Fx p s m args meth c cX4_alike 4 RX4 (some .int)) (hA : ∀ q, s.heap.size ≤ q → A q)   : ∀ (fu : Nat) (v3 : Int32) (z : Int32), f_X4_alike_L18 ze M v1 v2 fu v3 = some z → Ends p l e (rmOf 1 24) s m args below meth c Q cX4_alike G A (some .int) (some (.int z)) (kW G q zp ze zf zg zn aG aW aR aN aF lC lS lP lX ++ (oW G q ztc aTs aTn zoc aOs aOn aTp zln zpl zfa aSz zit zip zic zig M ++ fr)) → ∀ (H : Heap) (locs : List Loc) (ls : Array Slot), Wd G s A (kW G q zp ze zf zg zn aG aW aR aN aF lC lS lP lX ++ (oW G q ztc aTs aTn zoc aOs aOn aTp zln zpl zfa aSz zit zip zic zig M ++ fr)) H locs → lv_has ls 4 [(0, .ref (q 21)), (1, .int v1), (2, .int v2), (3, .int v3)] → W p l e (rmOf 1 24) s m args below meth c H locs 0 0 Q (F0 m 18 ls []) := by
  have hx := F.x
  have hb := F.b
  intro fu
  induction fu with
  | zero =>
    intro v3 z h
    cases (h : none = some z)
  | succ fu ih =>
    intro v3 z h hE H locs ls hw hl
    rw [f_X4_alike_L18] at h
    refine lv_iload_n hx hb dX4_alike_18 rfl (lv_at hl 3 rfl) ?_
    refine lv_aload_n hx hb dX4_alike_19 rfl (lv_at hl 0 rfl) ?_
    refine gf_4_14 F hw dX4_alike_20 ?_
    refine gf_4_75 F hw dX4_alike_23 ?_
    refine lv_icmp_ge (tgt := 57) hx hb dX4_alike_26 (by decide) (fun c1 => ?_) (fun c1 => ?_)
    · replace h := stT c1 h
      refine lv_bipush (v := -5) hx hb dX4_alike_57 (by decide) ?_
      obtain rfl := Option.some.inj h
      exact hE H locs _ ls hw dX4_alike_59
    · replace h := stF c1 h
      refine lv_aload_n hx hb dX4_alike_29 rfl (lv_at hl 0 rfl) ?_
      refine lv_aload_n hx hb dX4_alike_30 rfl (lv_at hl 0 rfl) ?_
      refine gf_4_47 F hw dX4_alike_31 ?_
      refine lv_iload_n hx hb dX4_alike_34 rfl (lv_at hl 1 rfl) ?_
      obtain ⟨g2, h⟩ := stG h
      refine aq_c22 F hw g2 dX4_alike_35 ?_
      refine lv_iload_n hx hb dX4_alike_36 rfl (lv_at hl 3 rfl) ?_
      refine lv_aload_n hx hb dX4_alike_37 rfl (lv_at hl 0 rfl) ?_
      refine gf_4_47 F hw dX4_alike_38 ?_
      refine lv_iload_n hx hb dX4_alike_41 rfl (lv_at hl 2 rfl) ?_
      obtain ⟨g3, h⟩ := stG h
      refine aq_c22 F hw g3 dX4_alike_42 ?_
      obtain ⟨z4, hz4, h⟩ := stB h
      refine ctV (av := [.ref (q (26 + (0 + v1.toNatClampNeg))), .int v3, .ref (q (26 + (0 + v2.toNatClampNeg)))]) (st0 := ([] : List Value)) (st1 := ([.int z4] : List Value)) F hw hA (k_X4_isTurnedBy (Nat.lt_of_lt_of_le (Nat.add_lt_add_left (inb_lt g2) 0) (by decide)) (Nat.lt_of_lt_of_le (Nat.add_lt_add_left (inb_lt g3) 0) (by decide)) hz4) kl_4_163 kd_X4_isTurnedBy rfl ⟨by decide, by decide⟩ 21 rfl rfl hl.1 rfl (Nat.le_of_ble_eq_true rfl) dX4_alike_43 rfl (fun H locs hw => ?_)
      refine lv_if_eq (tgt := 51) hx hb dX4_alike_46 (by decide) (fun c5 => ?_) (fun c5 => ?_)
      · replace h := stT c5 h
        refine lv_iinc (v := (v3 + 1)) (lv' := [(3, .int (v3 + 1)), (0, .ref (q 21)), (1, .int v1), (2, .int v2)]) hx hb dX4_alike_51 hl (k := 3) rfl rfl (by decide) rfl (fun ls hl => ?_)
        refine lv_goto (tgt := 18) hx hb dX4_alike_54 (by decide) ?_
        exact ih _ z h hE H locs ls hw (lv_sub hl [1, 2, 3, 0] rfl)
      · replace h := stF c5 h
        refine lv_iload_n hx hb dX4_alike_49 rfl (lv_at hl 3 rfl) ?_
        obtain rfl := Option.some.inj h
        exact hE H locs _ ls hw dX4_alike_50
def f_X4_alike (ze : Int32) (M : Nat → Nat → Int64) (v1 : Int32) (v2 : Int32) : Option (Int32) :=
  (f_X4_isShelf v1).bind fun z1 =>
  if z1 = 0 then
  some (-1)
  else
  (f_X4_isShelf v2).bind fun z3 =>
  if z3 = 0 then
  some (-1)
  else
  f_X4_alike_L18 ze M v1 v2 FU 0
set_option maxHeartbeats 4000000 in
set_option maxRecDepth 100000 in
theorem k_X4_alike {l : Launch} {G : GG} {q : Nat → Nat} {fr : va_W}  {zp : Int32} {ze : Int32} {zf : Int32} {zg : Int32} {zn : Int32} {aG : Nat → Int32} {aW : Nat → Int32} {aR : Nat → Int32} {aN : Nat → Int32} {aF : Nat → Int32} {lC : Nat → Int64} {lS : Nat → Int64} {lP : Nat → Int64} {lX : Nat → Int64} {ztc : Int32} {aTs : Nat → Int32} {aTn : Nat → Int32} {zoc : Int32} {aOs : Nat → Int32} {aOn : Nat → Int32} {aTp : Nat → Int32} {zln : Int32} {zpl : Int32} {zfa : Int32} {aSz : Nat → Int32} {zit : Int32} {zip : Int32} {zic : Int32} {zig : Int32} {M : Nat → Nat → Int64} {v1 : Int32} {v2 : Int32} {z : Int32}  (h : f_X4_alike ze M v1 v2 = some z) : Ct l G yX4_alike cX4_alike 4 (some .int) 1 24 [.ref (q 21), .int v1, .int v2] (kW G q zp ze zf zg zn aG aW aR aN aF lC lS lP lX ++ (oW G q ztc aTs aTn zoc aOs aOn aTp zln zpl zfa aSz zit zip zic zig M ++ fr)) (some (.int z)) (kW G q zp ze zf zg zn aG aW aR aN aF lC lS lP lX ++ (oW G q ztc aTs aTn zoc aOs aOn aTp zln zpl zfa aSz zit zip zic zig M ++ fr)) := by
  refine Ct.of (by decide +kernel) (Nat.le_of_ble_eq_true rfl) trivial ?_
  intro p e s m args below meth c Q A ls F hw hA hE hl
  have hx := F.x
  have hb := F.b
  unfold f_X4_alike at h
  obtain ⟨H, hH⟩ : ∃ H, H = s.heap := ⟨_, rfl⟩
  obtain ⟨locs, hlo⟩ : ∃ locs : List Loc, locs = [] := ⟨_, rfl⟩
  rw [← hH, ← hlo] at hw ⊢
  have hl : lv_has ls 4 [(0, .ref (q 21)), (1, .int v1), (2, .int v2)] := hl
  refine lv_iload_n hx hb dX4_alike_0 rfl (lv_at hl 1 rfl) ?_
  obtain ⟨z1, hz1, h⟩ := stB h
  refine ctS (av := [.int v1]) (st0 := ([] : List Value)) (st1 := ([.int z1] : List Value)) F hw hA (k_X4_isShelf hz1) kl_4_132 kd_X4_isShelf rfl ⟨by decide, by decide⟩ hl.1 rfl (Nat.le_of_ble_eq_true rfl) dX4_alike_1 rfl (fun H locs hw => ?_)
  refine lv_if_eq (tgt := 14) hx hb dX4_alike_4 (by decide) (fun c2 => ?_) (fun c2 => ?_)
  · replace h := stT c2 h
    refine lv_iconst (v := -1) hx hb dX4_alike_14 (by decide) ?_
    obtain rfl := Option.some.inj h
    exact hE H locs _ ls hw dX4_alike_15
  · replace h := stF c2 h
    refine lv_iload_n hx hb dX4_alike_7 rfl (lv_at hl 2 rfl) ?_
    obtain ⟨z3, hz3, h⟩ := stB h
    refine ctS (av := [.int v2]) (st0 := ([] : List Value)) (st1 := ([.int z3] : List Value)) F hw hA (k_X4_isShelf hz3) kl_4_132 kd_X4_isShelf rfl ⟨by decide, by decide⟩ hl.1 rfl (Nat.le_of_ble_eq_true rfl) dX4_alike_8 rfl (fun H locs hw => ?_)
    refine lv_if_ne (tgt := 16) hx hb dX4_alike_11 (by decide) (fun c4 => ?_) (fun c4 => ?_)
    · replace h := stF c4 h
      refine lv_iconst (v := 0) hx hb dX4_alike_16 (by decide) ?_
      refine lv_istore_n (lv' := [(3, .int 0), (0, .ref (q 21)), (1, .int v1), (2, .int v2)]) hx hb dX4_alike_17 rfl hl (by decide) rfl (fun ls hl => ?_)
      exact w_X4_alike_L18 F hA  FU _ z h hE H locs ls hw (lv_sub hl [1, 2, 3, 0] rfl)
    · replace h := stT c4 h
      refine lv_iconst (v := -1) hx hb dX4_alike_14 (by decide) ?_
      obtain rfl := Option.some.inj h
      exact hE H locs _ ls hw dX4_alike_15
end
theorem dX4_why_0 : decode cX4_why 0 = .ok (.iload_n 1, 1) := by decide +kernel
theorem dX4_why_1 : decode cX4_why 1 = .ok (.ifCond .lt 12, 3) := by decide +kernel
theorem dX4_why_4 : decode cX4_why 4 = .ok (.iload_n 2, 1) := by decide +kernel
theorem dX4_why_5 : decode cX4_why 5 = .ok (.ifCond .lt 8, 3) := by decide +kernel
theorem dX4_why_8 : decode cX4_why 8 = .ok (.iload_n 2, 1) := by decide +kernel
theorem dX4_why_9 : decode cX4_why 9 = .ok (.iconst 1, 1) := by decide +kernel
theorem dX4_why_10 : decode cX4_why 10 = .ok (.if_icmp .le 5, 3) := by decide +kernel
theorem dX4_why_13 : decode cX4_why 13 = .ok (.iconst (-1), 1) := by decide +kernel
theorem dX4_why_14 : decode cX4_why 14 = .ok (.ireturn, 1) := by decide +kernel
theorem dX4_why_15 : decode cX4_why 15 = .ok (.iload_n 1, 1) := by decide +kernel
theorem dX4_why_16 : decode cX4_why 16 = .ok (.aload_n 0, 1) := by decide +kernel
theorem dX4_why_17 : decode cX4_why 17 = .ok (.getfield 23, 3) := by decide +kernel
theorem dX4_why_20 : decode cX4_why 20 = .ok (.getfield 166, 3) := by decide +kernel
theorem dX4_why_23 : decode cX4_why 23 = .ok (.if_icmp .lt 6, 3) := by decide +kernel
theorem dX4_why_26 : decode cX4_why 26 = .ok (.bipush (-5), 2) := by decide +kernel
theorem dX4_why_28 : decode cX4_why 28 = .ok (.ireturn, 1) := by decide +kernel
theorem dX4_why_29 : decode cX4_why 29 = .ok (.iload_n 2, 1) := by decide +kernel
theorem dX4_why_30 : decode cX4_why 30 = .ok (.ifCond .ne 15, 3) := by decide +kernel
theorem dX4_why_33 : decode cX4_why 33 = .ok (.aload_n 0, 1) := by decide +kernel
theorem dX4_why_34 : decode cX4_why 34 = .ok (.getfield 23, 3) := by decide +kernel
theorem dX4_why_37 : decode cX4_why 37 = .ok (.getfield 169, 3) := by decide +kernel
theorem dX4_why_40 : decode cX4_why 40 = .ok (.iload_n 1, 1) := by decide +kernel
theorem dX4_why_41 : decode cX4_why 41 = .ok (.iaload, 1) := by decide +kernel
theorem dX4_why_42 : decode cX4_why 42 = .ok (.goto 12, 3) := by decide +kernel
theorem dX4_why_45 : decode cX4_why 45 = .ok (.aload_n 0, 1) := by decide +kernel
theorem dX4_why_46 : decode cX4_why 46 = .ok (.getfield 23, 3) := by decide +kernel
theorem dX4_why_49 : decode cX4_why 49 = .ok (.getfield 172, 3) := by decide +kernel
theorem dX4_why_52 : decode cX4_why 52 = .ok (.iload_n 1, 1) := by decide +kernel
theorem dX4_why_53 : decode cX4_why 53 = .ok (.iaload, 1) := by decide +kernel
theorem dX4_why_54 : decode cX4_why 54 = .ok (.ireturn, 1) := by decide +kernel
section
variable {p : Program} {l : Launch} {e : Env} {s : State} {m : MethodId} {args : Array Value} {below : List Frame} {meth : Method} {c : Code} {Q : State → Prop} {G : GG} {A : Nat → Prop} {q : Nat → Nat} {fr : va_W}
def f_X4_why (ztc : Int32) (aTs : Nat → Int32) (aTn : Nat → Int32) (v1 : Int32) (v2 : Int32) : Option (Int32) :=
  if v1 < 0 then
  some (-1)
  else
  if v2 < 0 then
  some (-1)
  else
  if v2 ≤ 1 then
  if v1 < ztc then
  if v2 = 0 then
  if inb v1 6 then
  some (aTs v1.toNatClampNeg)
  else none
  else
  if inb v1 6 then
  some (aTn v1.toNatClampNeg)
  else none
  else
  some (-5)
  else
  some (-1)
set_option maxHeartbeats 4000000 in
set_option maxRecDepth 100000 in
theorem k_X4_why {l : Launch} {G : GG} {q : Nat → Nat} {fr : va_W}  {zp : Int32} {ze : Int32} {zf : Int32} {zg : Int32} {zn : Int32} {aG : Nat → Int32} {aW : Nat → Int32} {aR : Nat → Int32} {aN : Nat → Int32} {aF : Nat → Int32} {lC : Nat → Int64} {lS : Nat → Int64} {lP : Nat → Int64} {lX : Nat → Int64} {ztc : Int32} {aTs : Nat → Int32} {aTn : Nat → Int32} {zoc : Int32} {aOs : Nat → Int32} {aOn : Nat → Int32} {aTp : Nat → Int32} {zln : Int32} {zpl : Int32} {zfa : Int32} {aSz : Nat → Int32} {zit : Int32} {zip : Int32} {zic : Int32} {zig : Int32} {M : Nat → Nat → Int64} {v1 : Int32} {v2 : Int32} {z : Int32}  (h : f_X4_why ztc aTs aTn v1 v2 = some z) : Ct l G yX4_why cX4_why 3 (some .int) 0 0 [.ref (q 21), .int v1, .int v2] (kW G q zp ze zf zg zn aG aW aR aN aF lC lS lP lX ++ (oW G q ztc aTs aTn zoc aOs aOn aTp zln zpl zfa aSz zit zip zic zig M ++ fr)) (some (.int z)) (kW G q zp ze zf zg zn aG aW aR aN aF lC lS lP lX ++ (oW G q ztc aTs aTn zoc aOs aOn aTp zln zpl zfa aSz zit zip zic zig M ++ fr)) := by
  refine Ct.of (by decide +kernel) (Nat.le_of_ble_eq_true rfl) trivial ?_
  intro p e s m args below meth c Q A ls F hw hA hE hl
  have hx := F.x
  have hb := F.b
  unfold f_X4_why at h
  obtain ⟨H, hH⟩ : ∃ H, H = s.heap := ⟨_, rfl⟩
  obtain ⟨locs, hlo⟩ : ∃ locs : List Loc, locs = [] := ⟨_, rfl⟩
  rw [← hH, ← hlo] at hw ⊢
  have hl : lv_has ls 3 [(0, .ref (q 21)), (1, .int v1), (2, .int v2)] := hl
  refine lv_iload_n hx hb dX4_why_0 rfl (lv_at hl 1 rfl) ?_
  refine lv_if_lt (tgt := 13) hx hb dX4_why_1 (by decide) (fun c1 => ?_) (fun c1 => ?_)
  · replace h := stT c1 h
    refine lv_iconst (v := -1) hx hb dX4_why_13 (by decide) ?_
    obtain rfl := Option.some.inj h
    exact hE H locs _ ls hw dX4_why_14
  · replace h := stF c1 h
    refine lv_iload_n hx hb dX4_why_4 rfl (lv_at hl 2 rfl) ?_
    refine lv_if_lt (tgt := 13) hx hb dX4_why_5 (by decide) (fun c2 => ?_) (fun c2 => ?_)
    · replace h := stT c2 h
      refine lv_iconst (v := -1) hx hb dX4_why_13 (by decide) ?_
      obtain rfl := Option.some.inj h
      exact hE H locs _ ls hw dX4_why_14
    · replace h := stF c2 h
      refine lv_iload_n hx hb dX4_why_8 rfl (lv_at hl 2 rfl) ?_
      refine lv_iconst (v := 1) hx hb dX4_why_9 (by decide) ?_
      refine lv_icmp_le (tgt := 15) hx hb dX4_why_10 (by decide) (fun c3 => ?_) (fun c3 => ?_)
      · replace h := stT c3 h
        refine lv_iload_n hx hb dX4_why_15 rfl (lv_at hl 1 rfl) ?_
        refine lv_aload_n hx hb dX4_why_16 rfl (lv_at hl 0 rfl) ?_
        refine gf_4_23 F hw dX4_why_17 ?_
        refine gf_4_166 F hw dX4_why_20 ?_
        refine lv_icmp_lt (tgt := 29) hx hb dX4_why_23 (by decide) (fun c4 => ?_) (fun c4 => ?_)
        · replace h := stT c4 h
          refine lv_iload_n hx hb dX4_why_29 rfl (lv_at hl 2 rfl) ?_
          refine lv_if_ne (tgt := 45) hx hb dX4_why_30 (by decide) (fun c5 => ?_) (fun c5 => ?_)
          · replace h := stF c5 h
            refine lv_aload_n hx hb dX4_why_45 rfl (lv_at hl 0 rfl) ?_
            refine gf_4_23 F hw dX4_why_46 ?_
            refine gf_4_172 F hw dX4_why_49 ?_
            refine lv_iload_n hx hb dX4_why_52 rfl (lv_at hl 1 rfl) ?_
            obtain ⟨g6, h⟩ := stG h
            refine al_c12 F hw g6 dX4_why_53 ?_
            obtain rfl := Option.some.inj h
            exact hE H locs _ ls hw dX4_why_54
          · replace h := stT c5 h
            refine lv_aload_n hx hb dX4_why_33 rfl (lv_at hl 0 rfl) ?_
            refine gf_4_23 F hw dX4_why_34 ?_
            refine gf_4_169 F hw dX4_why_37 ?_
            refine lv_iload_n hx hb dX4_why_40 rfl (lv_at hl 1 rfl) ?_
            obtain ⟨g7, h⟩ := stG h
            refine al_c11 F hw g7 dX4_why_41 ?_
            refine lv_goto (tgt := 54) hx hb dX4_why_42 (by decide) ?_
            obtain rfl := Option.some.inj h
            exact hE H locs _ ls hw dX4_why_54
        · replace h := stF c4 h
          refine lv_bipush (v := -5) hx hb dX4_why_26 (by decide) ?_
          obtain rfl := Option.some.inj h
          exact hE H locs _ ls hw dX4_why_28
      · replace h := stF c3 h
        refine lv_iconst (v := -1) hx hb dX4_why_13 (by decide) ?_
        obtain rfl := Option.some.inj h
        exact hE H locs _ ls hw dX4_why_14
end
theorem dX4_feed_0 : decode cX4_feed 0 = .ok (.iload_n 1, 1) := by decide +kernel
theorem dX4_feed_1 : decode cX4_feed 1 = .ok (.bipush 32, 2) := by decide +kernel
theorem dX4_feed_3 : decode cX4_feed 3 = .ok (.if_icmp .lt 9, 3) := by decide +kernel
theorem dX4_feed_6 : decode cX4_feed 6 = .ok (.iload_n 1, 1) := by decide +kernel
theorem dX4_feed_7 : decode cX4_feed 7 = .ok (.bipush 126, 2) := by decide +kernel
theorem dX4_feed_9 : decode cX4_feed 9 = .ok (.if_icmp .le 6, 3) := by decide +kernel
theorem dX4_feed_12 : decode cX4_feed 12 = .ok (.bipush (-2), 2) := by decide +kernel
theorem dX4_feed_14 : decode cX4_feed 14 = .ok (.ireturn, 1) := by decide +kernel
theorem dX4_feed_15 : decode cX4_feed 15 = .ok (.aload_n 0, 1) := by decide +kernel
theorem dX4_feed_16 : decode cX4_feed 16 = .ok (.getfield 41, 3) := by decide +kernel
theorem dX4_feed_19 : decode cX4_feed 19 = .ok (.getfield 175, 3) := by decide +kernel
theorem dX4_feed_22 : decode cX4_feed 22 = .ok (.bipush 80, 2) := by decide +kernel
theorem dX4_feed_24 : decode cX4_feed 24 = .ok (.if_icmp .lt 6, 3) := by decide +kernel
theorem dX4_feed_27 : decode cX4_feed 27 = .ok (.bipush (-4), 2) := by decide +kernel
theorem dX4_feed_29 : decode cX4_feed 29 = .ok (.ireturn, 1) := by decide +kernel
theorem dX4_feed_30 : decode cX4_feed 30 = .ok (.aload_n 0, 1) := by decide +kernel
theorem dX4_feed_31 : decode cX4_feed 31 = .ok (.getfield 41, 3) := by decide +kernel
theorem dX4_feed_34 : decode cX4_feed 34 = .ok (.iload_n 1, 1) := by decide +kernel
theorem dX4_feed_35 : decode cX4_feed 35 = .ok (.invokevirtual 178, 3) := by decide +kernel
theorem dX4_feed_38 : decode cX4_feed 38 = .ok (.aload_n 0, 1) := by decide +kernel
theorem dX4_feed_39 : decode cX4_feed 39 = .ok (.getfield 41, 3) := by decide +kernel
theorem dX4_feed_42 : decode cX4_feed 42 = .ok (.getfield 175, 3) := by decide +kernel
theorem dX4_feed_45 : decode cX4_feed 45 = .ok (.ireturn, 1) := by decide +kernel
section
variable {p : Program} {l : Launch} {e : Env} {s : State} {m : MethodId} {args : Array Value} {below : List Frame} {meth : Method} {c : Code} {Q : State → Prop} {G : GG} {A : Nat → Prop} {q : Nat → Nat} {fr : va_W}
def f_X4_feed (aTp : Nat → Int32) (zln : Int32) (v1 : Int32) : Option (Int32 × (Nat → Int32) × Int32) :=
  if v1 < 32 then
  some ((-2), aTp, zln)
  else
  if v1 ≤ 126 then
  if zln < 80 then
  (f_X1_append aTp zln v1).bind fun z4 =>
  some (z4.2, z4.1, z4.2)
  else
  some ((-4), aTp, zln)
  else
  some ((-2), aTp, zln)
set_option maxHeartbeats 4000000 in
set_option maxRecDepth 100000 in
theorem k_X4_feed {l : Launch} {G : GG} {q : Nat → Nat} {fr : va_W}  {zp : Int32} {ze : Int32} {zf : Int32} {zg : Int32} {zn : Int32} {aG : Nat → Int32} {aW : Nat → Int32} {aR : Nat → Int32} {aN : Nat → Int32} {aF : Nat → Int32} {lC : Nat → Int64} {lS : Nat → Int64} {lP : Nat → Int64} {lX : Nat → Int64} {ztc : Int32} {aTs : Nat → Int32} {aTn : Nat → Int32} {zoc : Int32} {aOs : Nat → Int32} {aOn : Nat → Int32} {aTp : Nat → Int32} {zln : Int32} {zpl : Int32} {zfa : Int32} {aSz : Nat → Int32} {zit : Int32} {zip : Int32} {zic : Int32} {zig : Int32} {M : Nat → Nat → Int64} {v1 : Int32} {z : Int32 × (Nat → Int32) × Int32}  (h : f_X4_feed aTp zln v1 = some z) : Ct l G yX4_feed cX4_feed 2 (some .int) 1 21 [.ref (q 21), .int v1] (kW G q zp ze zf zg zn aG aW aR aN aF lC lS lP lX ++ (oW G q ztc aTs aTn zoc aOs aOn aTp zln zpl zfa aSz zit zip zic zig M ++ fr)) (some (.int z.1)) (kW G q zp ze zf zg zn aG aW aR aN aF lC lS lP lX ++ (oW G q ztc aTs aTn zoc aOs aOn z.2.1 z.2.2 zpl zfa aSz zit zip zic zig M ++ fr)) := by
  refine Ct.of (by decide +kernel) (Nat.le_of_ble_eq_true rfl) trivial ?_
  intro p e s m args below meth c Q A ls F hw hA hE hl
  have hx := F.x
  have hb := F.b
  unfold f_X4_feed at h
  obtain ⟨H, hH⟩ : ∃ H, H = s.heap := ⟨_, rfl⟩
  obtain ⟨locs, hlo⟩ : ∃ locs : List Loc, locs = [] := ⟨_, rfl⟩
  rw [← hH, ← hlo] at hw ⊢
  have hl : lv_has ls 2 [(0, .ref (q 21)), (1, .int v1)] := hl
  refine lv_iload_n hx hb dX4_feed_0 rfl (lv_at hl 1 rfl) ?_
  refine lv_bipush (v := 32) hx hb dX4_feed_1 (by decide) ?_
  refine lv_icmp_lt (tgt := 12) hx hb dX4_feed_3 (by decide) (fun c1 => ?_) (fun c1 => ?_)
  · replace h := stT c1 h
    refine lv_bipush (v := -2) hx hb dX4_feed_12 (by decide) ?_
    obtain rfl := Option.some.inj h
    exact hE H locs _ ls hw dX4_feed_14
  · replace h := stF c1 h
    refine lv_iload_n hx hb dX4_feed_6 rfl (lv_at hl 1 rfl) ?_
    refine lv_bipush (v := 126) hx hb dX4_feed_7 (by decide) ?_
    refine lv_icmp_le (tgt := 15) hx hb dX4_feed_9 (by decide) (fun c2 => ?_) (fun c2 => ?_)
    · replace h := stT c2 h
      refine lv_aload_n hx hb dX4_feed_15 rfl (lv_at hl 0 rfl) ?_
      refine gf_4_41 F hw dX4_feed_16 ?_
      refine gf_4_175 F hw dX4_feed_19 ?_
      refine lv_bipush (v := 80) hx hb dX4_feed_22 (by decide) ?_
      refine lv_icmp_lt (tgt := 30) hx hb dX4_feed_24 (by decide) (fun c3 => ?_) (fun c3 => ?_)
      · replace h := stT c3 h
        refine lv_aload_n hx hb dX4_feed_30 rfl (lv_at hl 0 rfl) ?_
        refine gf_4_41 F hw dX4_feed_31 ?_
        refine lv_iload_n hx hb dX4_feed_34 rfl (lv_at hl 1 rfl) ?_
        obtain ⟨z4, hz4, h⟩ := stB h
        refine ctV (av := [.int v1]) (st0 := ([] : List Value)) (st1 := ([] : List Value)) F hw hA (k_X1_append hz4) kl_4_178 kd_X1_append rfl ⟨by decide, by decide⟩ 16 rfl rfl hl.1 rfl (Nat.le_of_ble_eq_true rfl) dX4_feed_35 rfl (fun H locs hw => ?_)
        refine lv_aload_n hx hb dX4_feed_38 rfl (lv_at hl 0 rfl) ?_
        refine gf_4_41 F hw dX4_feed_39 ?_
        refine gf_4_175 F hw dX4_feed_42 ?_
        obtain rfl := Option.some.inj h
        exact hE H locs _ ls hw dX4_feed_45
      · replace h := stF c3 h
        refine lv_bipush (v := -4) hx hb dX4_feed_27 (by decide) ?_
        obtain rfl := Option.some.inj h
        exact hE H locs _ ls hw dX4_feed_29
    · replace h := stF c2 h
      refine lv_bipush (v := -2) hx hb dX4_feed_12 (by decide) ?_
      obtain rfl := Option.some.inj h
      exact hE H locs _ ls hw dX4_feed_14
end
theorem dX4_wipe_0 : decode cX4_wipe 0 = .ok (.aload_n 0, 1) := by decide +kernel
theorem dX4_wipe_1 : decode cX4_wipe 1 = .ok (.getfield 41, 3) := by decide +kernel
theorem dX4_wipe_4 : decode cX4_wipe 4 = .ok (.getfield 175, 3) := by decide +kernel
theorem dX4_wipe_7 : decode cX4_wipe 7 = .ok (.istore_n 1, 1) := by decide +kernel
theorem dX4_wipe_8 : decode cX4_wipe 8 = .ok (.aload_n 0, 1) := by decide +kernel
theorem dX4_wipe_9 : decode cX4_wipe 9 = .ok (.getfield 41, 3) := by decide +kernel
theorem dX4_wipe_12 : decode cX4_wipe 12 = .ok (.iconst 0, 1) := by decide +kernel
theorem dX4_wipe_13 : decode cX4_wipe 13 = .ok (.putfield 175, 3) := by decide +kernel
theorem dX4_wipe_16 : decode cX4_wipe 16 = .ok (.iload_n 1, 1) := by decide +kernel
theorem dX4_wipe_17 : decode cX4_wipe 17 = .ok (.ireturn, 1) := by decide +kernel
section
variable {p : Program} {l : Launch} {e : Env} {s : State} {m : MethodId} {args : Array Value} {below : List Frame} {meth : Method} {c : Code} {Q : State → Prop} {G : GG} {A : Nat → Prop} {q : Nat → Nat} {fr : va_W}
def f_X4_wipe (zln : Int32) : Option (Int32 × Int32) :=
  some (zln, 0)
set_option maxHeartbeats 4000000 in
set_option maxRecDepth 100000 in
theorem k_X4_wipe {l : Launch} {G : GG} {q : Nat → Nat} {fr : va_W}  {zp : Int32} {ze : Int32} {zf : Int32} {zg : Int32} {zn : Int32} {aG : Nat → Int32} {aW : Nat → Int32} {aR : Nat → Int32} {aN : Nat → Int32} {aF : Nat → Int32} {lC : Nat → Int64} {lS : Nat → Int64} {lP : Nat → Int64} {lX : Nat → Int64} {ztc : Int32} {aTs : Nat → Int32} {aTn : Nat → Int32} {zoc : Int32} {aOs : Nat → Int32} {aOn : Nat → Int32} {aTp : Nat → Int32} {zln : Int32} {zpl : Int32} {zfa : Int32} {aSz : Nat → Int32} {zit : Int32} {zip : Int32} {zic : Int32} {zig : Int32} {M : Nat → Nat → Int64}  {z : Int32 × Int32}  (h : f_X4_wipe zln = some z) : Ct l G yX4_wipe cX4_wipe 2 (some .int) 0 0 [.ref (q 21)] (kW G q zp ze zf zg zn aG aW aR aN aF lC lS lP lX ++ (oW G q ztc aTs aTn zoc aOs aOn aTp zln zpl zfa aSz zit zip zic zig M ++ fr)) (some (.int z.1)) (kW G q zp ze zf zg zn aG aW aR aN aF lC lS lP lX ++ (oW G q ztc aTs aTn zoc aOs aOn aTp z.2 zpl zfa aSz zit zip zic zig M ++ fr)) := by
  refine Ct.of (by decide +kernel) (Nat.le_of_ble_eq_true rfl) trivial ?_
  intro p e s m args below meth c Q A ls F hw hA hE hl
  have hx := F.x
  have hb := F.b
  unfold f_X4_wipe at h
  obtain ⟨H, hH⟩ : ∃ H, H = s.heap := ⟨_, rfl⟩
  obtain ⟨locs, hlo⟩ : ∃ locs : List Loc, locs = [] := ⟨_, rfl⟩
  rw [← hH, ← hlo] at hw ⊢
  have hl : lv_has ls 2 [(0, .ref (q 21))] := hl
  refine lv_aload_n hx hb dX4_wipe_0 rfl (lv_at hl 0 rfl) ?_
  refine gf_4_41 F hw dX4_wipe_1 ?_
  refine gf_4_175 F hw dX4_wipe_4 ?_
  refine lv_istore_n (lv' := [(1, .int zln), (0, .ref (q 21))]) hx hb dX4_wipe_7 rfl hl (by decide) rfl (fun ls hl => ?_)
  refine lv_aload_n hx hb dX4_wipe_8 rfl (lv_at hl 1 rfl) ?_
  refine gf_4_41 F hw dX4_wipe_9 ?_
  refine lv_iconst (v := 0) hx hb dX4_wipe_12 (by decide) ?_
  refine pf_4_175 F hw dX4_wipe_13 (fun H locs hw => ?_)
  refine lv_iload_n hx hb dX4_wipe_16 rfl (lv_at hl 0 rfl) ?_
  obtain rfl := Option.some.inj h
  exact hE H locs _ ls hw dX4_wipe_17
end
theorem dX4_read_0 : decode cX4_read 0 = .ok (.iload_n 1, 1) := by decide +kernel
theorem dX4_read_1 : decode cX4_read 1 = .ok (.invokestatic 132, 3) := by decide +kernel
theorem dX4_read_4 : decode cX4_read 4 = .ok (.ifCond .ne 5, 3) := by decide +kernel
theorem dX4_read_7 : decode cX4_read 7 = .ok (.iconst (-1), 1) := by decide +kernel
theorem dX4_read_8 : decode cX4_read 8 = .ok (.ireturn, 1) := by decide +kernel
theorem dX4_read_9 : decode cX4_read 9 = .ok (.aload_n 0, 1) := by decide +kernel
theorem dX4_read_10 : decode cX4_read 10 = .ok (.getfield 41, 3) := by decide +kernel
theorem dX4_read_13 : decode cX4_read 13 = .ok (.aload_n 0, 1) := by decide +kernel
theorem dX4_read_14 : decode cX4_read 14 = .ok (.getfield 47, 3) := by decide +kernel
theorem dX4_read_17 : decode cX4_read 17 = .ok (.iload_n 1, 1) := by decide +kernel
theorem dX4_read_18 : decode cX4_read 18 = .ok (.aaload, 1) := by decide +kernel
theorem dX4_read_19 : decode cX4_read 19 = .ok (.invokevirtual 181, 3) := by decide +kernel
theorem dX4_read_22 : decode cX4_read 22 = .ok (.istore_n 2, 1) := by decide +kernel
theorem dX4_read_23 : decode cX4_read 23 = .ok (.aload_n 0, 1) := by decide +kernel
theorem dX4_read_24 : decode cX4_read 24 = .ok (.getfield 41, 3) := by decide +kernel
theorem dX4_read_27 : decode cX4_read 27 = .ok (.iconst 0, 1) := by decide +kernel
theorem dX4_read_28 : decode cX4_read 28 = .ok (.putfield 175, 3) := by decide +kernel
theorem dX4_read_31 : decode cX4_read 31 = .ok (.iload_n 2, 1) := by decide +kernel
theorem dX4_read_32 : decode cX4_read 32 = .ok (.ireturn, 1) := by decide +kernel
section
variable {p : Program} {l : Launch} {e : Env} {s : State} {m : MethodId} {args : Array Value} {below : List Frame} {meth : Method} {c : Code} {Q : State → Prop} {G : GG} {A : Nat → Prop} {q : Nat → Nat} {fr : va_W}
def f_X4_read (ze : Int32) (aF : Nat → Int32) (ztc : Int32) (aTs : Nat → Int32) (aTn : Nat → Int32) (zoc : Int32) (aOs : Nat → Int32) (aOn : Nat → Int32) (aTp : Nat → Int32) (zln : Int32) (zpl : Int32) (zfa : Int32) (M : Nat → Nat → Int64) (v1 : Int32) : Option (Int32 × Int32 × (Nat → Int32) × (Nat → Int32) × Int32 × (Nat → Int32) × (Nat → Int32) × Int32 × Int32 × Int32 × (Nat → Nat → Int64)) :=
  (f_X4_isShelf v1).bind fun z1 =>
  if z1 = 0 then
  some ((-1), ztc, aTs, aTn, zoc, aOs, aOn, zln, zpl, zfa, M)
  else
  if inb v1 4 then
  (f_X1_readTo ze aF ztc aTs aTn zoc aOs aOn aTp zln zpl zfa M (0 + v1.toNatClampNeg)).bind fun z4 =>
  some (z4.1, z4.2.1, z4.2.2.1, z4.2.2.2.1, z4.2.2.2.2.1, z4.2.2.2.2.2.1, z4.2.2.2.2.2.2.1, 0, z4.2.2.2.2.2.2.2.1, z4.2.2.2.2.2.2.2.2.1, z4.2.2.2.2.2.2.2.2.2)
  else none
set_option maxHeartbeats 4000000 in
set_option maxRecDepth 100000 in
theorem k_X4_read {l : Launch} {G : GG} {q : Nat → Nat} {fr : va_W}  {zp : Int32} {ze : Int32} {zf : Int32} {zg : Int32} {zn : Int32} {aG : Nat → Int32} {aW : Nat → Int32} {aR : Nat → Int32} {aN : Nat → Int32} {aF : Nat → Int32} {lC : Nat → Int64} {lS : Nat → Int64} {lP : Nat → Int64} {lX : Nat → Int64} {ztc : Int32} {aTs : Nat → Int32} {aTn : Nat → Int32} {zoc : Int32} {aOs : Nat → Int32} {aOn : Nat → Int32} {aTp : Nat → Int32} {zln : Int32} {zpl : Int32} {zfa : Int32} {aSz : Nat → Int32} {zit : Int32} {zip : Int32} {zic : Int32} {zig : Int32} {M : Nat → Nat → Int64} {v1 : Int32} {z : Int32 × Int32 × (Nat → Int32) × (Nat → Int32) × Int32 × (Nat → Int32) × (Nat → Int32) × Int32 × Int32 × Int32 × (Nat → Nat → Int64)}  (h : f_X4_read ze aF ztc aTs aTn zoc aOs aOn aTp zln zpl zfa M v1 = some z) : Ct l G yX4_read cX4_read 3 (some .int) 50 1253 [.ref (q 21), .int v1] (kW G q zp ze zf zg zn aG aW aR aN aF lC lS lP lX ++ (oW G q ztc aTs aTn zoc aOs aOn aTp zln zpl zfa aSz zit zip zic zig M ++ fr)) (some (.int z.1)) (kW G q zp ze zf zg zn aG aW aR aN aF lC lS lP lX ++ (oW G q z.2.1 z.2.2.1 z.2.2.2.1 z.2.2.2.2.1 z.2.2.2.2.2.1 z.2.2.2.2.2.2.1 aTp z.2.2.2.2.2.2.2.1 z.2.2.2.2.2.2.2.2.1 z.2.2.2.2.2.2.2.2.2.1 aSz zit zip zic zig z.2.2.2.2.2.2.2.2.2.2 ++ fr)) := by
  refine Ct.of (by decide +kernel) (Nat.le_of_ble_eq_true rfl) trivial ?_
  intro p e s m args below meth c Q A ls F hw hA hE hl
  have hx := F.x
  have hb := F.b
  unfold f_X4_read at h
  obtain ⟨H, hH⟩ : ∃ H, H = s.heap := ⟨_, rfl⟩
  obtain ⟨locs, hlo⟩ : ∃ locs : List Loc, locs = [] := ⟨_, rfl⟩
  rw [← hH, ← hlo] at hw ⊢
  have hl : lv_has ls 3 [(0, .ref (q 21)), (1, .int v1)] := hl
  refine lv_iload_n hx hb dX4_read_0 rfl (lv_at hl 1 rfl) ?_
  obtain ⟨z1, hz1, h⟩ := stB h
  refine ctS (av := [.int v1]) (st0 := ([] : List Value)) (st1 := ([.int z1] : List Value)) F hw hA (k_X4_isShelf hz1) kl_4_132 kd_X4_isShelf rfl ⟨by decide, by decide⟩ hl.1 rfl (Nat.le_of_ble_eq_true rfl) dX4_read_1 rfl (fun H locs hw => ?_)
  refine lv_if_ne (tgt := 9) hx hb dX4_read_4 (by decide) (fun c2 => ?_) (fun c2 => ?_)
  · replace h := stF c2 h
    refine lv_aload_n hx hb dX4_read_9 rfl (lv_at hl 0 rfl) ?_
    refine gf_4_41 F hw dX4_read_10 ?_
    refine lv_aload_n hx hb dX4_read_13 rfl (lv_at hl 0 rfl) ?_
    refine gf_4_47 F hw dX4_read_14 ?_
    refine lv_iload_n hx hb dX4_read_17 rfl (lv_at hl 1 rfl) ?_
    obtain ⟨g3, h⟩ := stG h
    refine aq_c22 F hw g3 dX4_read_18 ?_
    obtain ⟨z4, hz4, h⟩ := stB h
    refine ctV (av := [.ref (q (26 + (0 + v1.toNatClampNeg)))]) (st0 := ([] : List Value)) (st1 := ([.int z4.1] : List Value)) F hw hA (k_X1_readTo (Nat.lt_of_lt_of_le (Nat.add_lt_add_left (inb_lt g3) 0) (by decide)) hz4) kl_4_181 kd_X1_readTo rfl ⟨by decide, by decide⟩ 16 rfl rfl hl.1 rfl (Nat.le_of_ble_eq_true rfl) dX4_read_19 rfl (fun H locs hw => ?_)
    refine lv_istore_n (lv' := [(2, .int z4.1), (0, .ref (q 21)), (1, .int v1)]) hx hb dX4_read_22 rfl hl (by decide) rfl (fun ls hl => ?_)
    refine lv_aload_n hx hb dX4_read_23 rfl (lv_at hl 1 rfl) ?_
    refine gf_4_41 F hw dX4_read_24 ?_
    refine lv_iconst (v := 0) hx hb dX4_read_27 (by decide) ?_
    refine pf_4_175 F hw dX4_read_28 (fun H locs hw => ?_)
    refine lv_iload_n hx hb dX4_read_31 rfl (lv_at hl 0 rfl) ?_
    obtain rfl := Option.some.inj h
    exact hE H locs _ ls hw dX4_read_32
  · replace h := stT c2 h
    refine lv_iconst (v := -1) hx hb dX4_read_7 (by decide) ?_
    obtain rfl := Option.some.inj h
    exact hE H locs _ ls hw dX4_read_8
end
theorem dX4_list_0 : decode cX4_list 0 = .ok (.iload_n 1, 1) := by decide +kernel
theorem dX4_list_1 : decode cX4_list 1 = .ok (.invokestatic 185, 3) := by decide +kernel
theorem dX4_list_4 : decode cX4_list 4 = .ok (.ifCond .ne 5, 3) := by decide +kernel
theorem dX4_list_7 : decode cX4_list 7 = .ok (.iconst (-1), 1) := by decide +kernel
theorem dX4_list_8 : decode cX4_list 8 = .ok (.ireturn, 1) := by decide +kernel
theorem dX4_list_9 : decode cX4_list 9 = .ok (.iload_n 2, 1) := by decide +kernel
theorem dX4_list_10 : decode cX4_list 10 = .ok (.bipush 15, 2) := by decide +kernel
theorem dX4_list_12 : decode cX4_list 12 = .ok (.if_icmp .le 6, 3) := by decide +kernel
theorem dX4_list_15 : decode cX4_list 15 = .ok (.bipush (-2), 2) := by decide +kernel
theorem dX4_list_17 : decode cX4_list 17 = .ok (.ireturn, 1) := by decide +kernel
theorem dX4_list_18 : decode cX4_list 18 = .ok (.iload_n 2, 1) := by decide +kernel
theorem dX4_list_19 : decode cX4_list 19 = .ok (.iconst (-1), 1) := by decide +kernel
theorem dX4_list_20 : decode cX4_list 20 = .ok (.if_icmp .ge 6, 3) := by decide +kernel
theorem dX4_list_23 : decode cX4_list 23 = .ok (.bipush (-14), 2) := by decide +kernel
theorem dX4_list_25 : decode cX4_list 25 = .ok (.ireturn, 1) := by decide +kernel
theorem dX4_list_26 : decode cX4_list 26 = .ok (.aload_n 0, 1) := by decide +kernel
theorem dX4_list_27 : decode cX4_list 27 = .ok (.getfield 53, 3) := by decide +kernel
theorem dX4_list_30 : decode cX4_list 30 = .ok (.iload_n 1, 1) := by decide +kernel
theorem dX4_list_31 : decode cX4_list 31 = .ok (.iload_n 2, 1) := by decide +kernel
theorem dX4_list_32 : decode cX4_list 32 = .ok (.iastore, 1) := by decide +kernel
theorem dX4_list_33 : decode cX4_list 33 = .ok (.iconst 0, 1) := by decide +kernel
theorem dX4_list_34 : decode cX4_list 34 = .ok (.istore_n 3, 1) := by decide +kernel
theorem dX4_list_35 : decode cX4_list 35 = .ok (.iload_n 3, 1) := by decide +kernel
theorem dX4_list_36 : decode cX4_list 36 = .ok (.iload_n 2, 1) := by decide +kernel
theorem dX4_list_37 : decode cX4_list 37 = .ok (.if_icmp .ge 18, 3) := by decide +kernel
theorem dX4_list_40 : decode cX4_list 40 = .ok (.aload_n 0, 1) := by decide +kernel
theorem dX4_list_41 : decode cX4_list 41 = .ok (.getfield 50, 3) := by decide +kernel
theorem dX4_list_44 : decode cX4_list 44 = .ok (.iload_n 1, 1) := by decide +kernel
theorem dX4_list_45 : decode cX4_list 45 = .ok (.aaload, 1) := by decide +kernel
theorem dX4_list_46 : decode cX4_list 46 = .ok (.iload_n 3, 1) := by decide +kernel
theorem dX4_list_47 : decode cX4_list 47 = .ok (.lconst 0, 1) := by decide +kernel
theorem dX4_list_48 : decode cX4_list 48 = .ok (.lastore, 1) := by decide +kernel
theorem dX4_list_49 : decode cX4_list 49 = .ok (.iinc 3 1, 3) := by decide +kernel
theorem dX4_list_52 : decode cX4_list 52 = .ok (.goto (-17), 3) := by decide +kernel
theorem dX4_list_55 : decode cX4_list 55 = .ok (.iconst 1, 1) := by decide +kernel
theorem dX4_list_56 : decode cX4_list 56 = .ok (.ireturn, 1) := by decide +kernel
section
variable {p : Program} {l : Launch} {e : Env} {s : State} {m : MethodId} {args : Array Value} {below : List Frame} {meth : Method} {c : Code} {Q : State → Prop} {G : GG} {A : Nat → Prop} {q : Nat → Nat} {fr : va_W}
def f_X4_list_L35 (v1 : Int32) (v2 : Int32) : Nat → (Nat → Int32) → (Nat → Nat → Int64) → Int32 → Option (Int32 × (Nat → Int32) × (Nat → Nat → Int64))
  | 0, _, _, _ => none
  | fu + 1, aSz, M, v3 =>
    if v2 ≤ v3 then
    some (1, aSz, M)
    else
    if inb v1 3 then
    if inb v3 (rl (4 + v1.toNatClampNeg)) then
    f_X4_list_L35 v1 v2 fu aSz (va_up M (4 + v1.toNatClampNeg) (vp_updL (M (4 + v1.toNatClampNeg)) v3.toNatClampNeg 0)) (v3 + 1)
    else none
    else none
set_option maxHeartbeats 4000000 in
set_option maxRecDepth 100000 in
theorem w_X4_list_L35  {zp : Int32} {ze : Int32} {zf : Int32} {zg : Int32} {zn : Int32} {aG : Nat → Int32} {aW : Nat → Int32} {aR : Nat → Int32} {aN : Nat → Int32} {aF : Nat → Int32} {lC : Nat → Int64} {lS : Nat → Int64} {lP : Nat → Int64} {lX : Nat → Int64} {ztc : Int32} {aTs : Nat → Int32} {aTn : Nat → Int32} {zoc : Int32} {aOs : Nat → Int32} {aOn : Nat → Int32} {aTp : Nat → Int32} {zln : Int32} {zpl : Int32} {zfa : Int32} {zit : Int32} {zip : Int32} {zic : Int32} {zig : Int32} {v1 : Int32} {v2 : Int32}  (F : Fx p s m args meth c cX4_list 4 RX4 (some .int)) (hA : ∀ q, s.heap.size ≤ q → A q)   : ∀ (fu : Nat) (aSz : Nat → Int32) (M : Nat → Nat → Int64) (v3 : Int32) (z : Int32 × (Nat → Int32) × (Nat → Nat → Int64)), f_X4_list_L35 v1 v2 fu aSz M v3 = some z → Ends p l e (rmOf 1 20) s m args below meth c Q cX4_list G A (some .int) (some (.int z.1)) (kW G q zp ze zf zg zn aG aW aR aN aF lC lS lP lX ++ (oW G q ztc aTs aTn zoc aOs aOn aTp zln zpl zfa z.2.1 zit zip zic zig z.2.2 ++ fr)) → ∀ (H : Heap) (locs : List Loc) (ls : Array Slot), Wd G s A (kW G q zp ze zf zg zn aG aW aR aN aF lC lS lP lX ++ (oW G q ztc aTs aTn zoc aOs aOn aTp zln zpl zfa aSz zit zip zic zig M ++ fr)) H locs → lv_has ls 4 [(0, .ref (q 21)), (1, .int v1), (2, .int v2), (3, .int v3)] → W p l e (rmOf 1 20) s m args below meth c H locs 0 0 Q (F0 m 35 ls []) := by
  have hx := F.x
  have hb := F.b
  intro fu
  induction fu with
  | zero =>
    intro aSz M v3 z h
    cases (h : none = some z)
  | succ fu ih =>
    intro aSz M v3 z h hE H locs ls hw hl
    rw [f_X4_list_L35] at h
    refine lv_iload_n hx hb dX4_list_35 rfl (lv_at hl 3 rfl) ?_
    refine lv_iload_n hx hb dX4_list_36 rfl (lv_at hl 2 rfl) ?_
    refine lv_icmp_ge (tgt := 55) hx hb dX4_list_37 (by decide) (fun c1 => ?_) (fun c1 => ?_)
    · replace h := stT c1 h
      refine lv_iconst (v := 1) hx hb dX4_list_55 (by decide) ?_
      obtain rfl := Option.some.inj h
      exact hE H locs _ ls hw dX4_list_56
    · replace h := stF c1 h
      refine lv_aload_n hx hb dX4_list_40 rfl (lv_at hl 0 rfl) ?_
      refine gf_4_50 F hw dX4_list_41 ?_
      refine lv_iload_n hx hb dX4_list_44 rfl (lv_at hl 1 rfl) ?_
      obtain ⟨g2, h⟩ := stG h
      refine aq_c23 F hw g2 dX4_list_45 ?_
      refine lv_iload_n hx hb dX4_list_46 rfl (lv_at hl 3 rfl) ?_
      refine lv_lconst (v := 0) hx hb dX4_list_47 (by decide) ?_
      obtain ⟨g3, h⟩ := stG h
      refine as_row F hw (Nat.lt_of_lt_of_le (Nat.add_lt_add_left (inb_lt g2) 4) (by decide)) g3 dX4_list_48 (fun H locs hw => ?_)
      refine lv_iinc (v := (v3 + 1)) (lv' := [(3, .int (v3 + 1)), (0, .ref (q 21)), (1, .int v1), (2, .int v2)]) hx hb dX4_list_49 hl (k := 3) rfl rfl (by decide) rfl (fun ls hl => ?_)
      refine lv_goto (tgt := 35) hx hb dX4_list_52 (by decide) ?_
      exact ih _ _ _ z h hE H locs ls hw (lv_sub hl [1, 2, 3, 0] rfl)
def f_X4_list (aSz : Nat → Int32) (M : Nat → Nat → Int64) (v1 : Int32) (v2 : Int32) : Option (Int32 × (Nat → Int32) × (Nat → Nat → Int64)) :=
  (f_X4_isList v1).bind fun z1 =>
  if z1 = 0 then
  some ((-1), aSz, M)
  else
  if v2 ≤ 15 then
  if (-1) ≤ v2 then
  if inb v1 3 then
  f_X4_list_L35 v1 v2 FU (upd aSz v1.toNatClampNeg v2) M 0
  else none
  else
  some ((-14), aSz, M)
  else
  some ((-2), aSz, M)
set_option maxHeartbeats 4000000 in
set_option maxRecDepth 100000 in
theorem k_X4_list {l : Launch} {G : GG} {q : Nat → Nat} {fr : va_W}  {zp : Int32} {ze : Int32} {zf : Int32} {zg : Int32} {zn : Int32} {aG : Nat → Int32} {aW : Nat → Int32} {aR : Nat → Int32} {aN : Nat → Int32} {aF : Nat → Int32} {lC : Nat → Int64} {lS : Nat → Int64} {lP : Nat → Int64} {lX : Nat → Int64} {ztc : Int32} {aTs : Nat → Int32} {aTn : Nat → Int32} {zoc : Int32} {aOs : Nat → Int32} {aOn : Nat → Int32} {aTp : Nat → Int32} {zln : Int32} {zpl : Int32} {zfa : Int32} {aSz : Nat → Int32} {zit : Int32} {zip : Int32} {zic : Int32} {zig : Int32} {M : Nat → Nat → Int64} {v1 : Int32} {v2 : Int32} {z : Int32 × (Nat → Int32) × (Nat → Nat → Int64)}  (h : f_X4_list aSz M v1 v2 = some z) : Ct l G yX4_list cX4_list 4 (some .int) 1 20 [.ref (q 21), .int v1, .int v2] (kW G q zp ze zf zg zn aG aW aR aN aF lC lS lP lX ++ (oW G q ztc aTs aTn zoc aOs aOn aTp zln zpl zfa aSz zit zip zic zig M ++ fr)) (some (.int z.1)) (kW G q zp ze zf zg zn aG aW aR aN aF lC lS lP lX ++ (oW G q ztc aTs aTn zoc aOs aOn aTp zln zpl zfa z.2.1 zit zip zic zig z.2.2 ++ fr)) := by
  refine Ct.of (by decide +kernel) (Nat.le_of_ble_eq_true rfl) trivial ?_
  intro p e s m args below meth c Q A ls F hw hA hE hl
  have hx := F.x
  have hb := F.b
  unfold f_X4_list at h
  obtain ⟨H, hH⟩ : ∃ H, H = s.heap := ⟨_, rfl⟩
  obtain ⟨locs, hlo⟩ : ∃ locs : List Loc, locs = [] := ⟨_, rfl⟩
  rw [← hH, ← hlo] at hw ⊢
  have hl : lv_has ls 4 [(0, .ref (q 21)), (1, .int v1), (2, .int v2)] := hl
  refine lv_iload_n hx hb dX4_list_0 rfl (lv_at hl 1 rfl) ?_
  obtain ⟨z1, hz1, h⟩ := stB h
  refine ctS (av := [.int v1]) (st0 := ([] : List Value)) (st1 := ([.int z1] : List Value)) F hw hA (k_X4_isList hz1) kl_4_185 kd_X4_isList rfl ⟨by decide, by decide⟩ hl.1 rfl (Nat.le_of_ble_eq_true rfl) dX4_list_1 rfl (fun H locs hw => ?_)
  refine lv_if_ne (tgt := 9) hx hb dX4_list_4 (by decide) (fun c2 => ?_) (fun c2 => ?_)
  · replace h := stF c2 h
    refine lv_iload_n hx hb dX4_list_9 rfl (lv_at hl 2 rfl) ?_
    refine lv_bipush (v := 15) hx hb dX4_list_10 (by decide) ?_
    refine lv_icmp_le (tgt := 18) hx hb dX4_list_12 (by decide) (fun c3 => ?_) (fun c3 => ?_)
    · replace h := stT c3 h
      refine lv_iload_n hx hb dX4_list_18 rfl (lv_at hl 2 rfl) ?_
      refine lv_iconst (v := -1) hx hb dX4_list_19 (by decide) ?_
      refine lv_icmp_ge (tgt := 26) hx hb dX4_list_20 (by decide) (fun c4 => ?_) (fun c4 => ?_)
      · replace h := stT c4 h
        refine lv_aload_n hx hb dX4_list_26 rfl (lv_at hl 0 rfl) ?_
        refine gf_4_53 F hw dX4_list_27 ?_
        refine lv_iload_n hx hb dX4_list_30 rfl (lv_at hl 1 rfl) ?_
        refine lv_iload_n hx hb dX4_list_31 rfl (lv_at hl 2 rfl) ?_
        obtain ⟨g5, h⟩ := stG h
        refine as_c24 F hw g5 dX4_list_32 (fun H locs hw => ?_)
        refine lv_iconst (v := 0) hx hb dX4_list_33 (by decide) ?_
        refine lv_istore_n (lv' := [(3, .int 0), (0, .ref (q 21)), (1, .int v1), (2, .int v2)]) hx hb dX4_list_34 rfl hl (by decide) rfl (fun ls hl => ?_)
        exact w_X4_list_L35 F hA  FU _ _ _ z h hE H locs ls hw (lv_sub hl [1, 2, 3, 0] rfl)
      · replace h := stF c4 h
        refine lv_bipush (v := -14) hx hb dX4_list_23 (by decide) ?_
        obtain rfl := Option.some.inj h
        exact hE H locs _ ls hw dX4_list_25
    · replace h := stF c3 h
      refine lv_bipush (v := -2) hx hb dX4_list_15 (by decide) ?_
      obtain rfl := Option.some.inj h
      exact hE H locs _ ls hw dX4_list_17
  · replace h := stT c2 h
    refine lv_iconst (v := -1) hx hb dX4_list_7 (by decide) ?_
    obtain rfl := Option.some.inj h
    exact hE H locs _ ls hw dX4_list_8
end
theorem dX4_lay_0 : decode cX4_lay 0 = .ok (.iload_n 1, 1) := by decide +kernel
theorem dX4_lay_1 : decode cX4_lay 1 = .ok (.invokestatic 185, 3) := by decide +kernel
theorem dX4_lay_4 : decode cX4_lay 4 = .ok (.ifCond .ne 5, 3) := by decide +kernel
theorem dX4_lay_7 : decode cX4_lay 7 = .ok (.iconst (-1), 1) := by decide +kernel
theorem dX4_lay_8 : decode cX4_lay 8 = .ok (.ireturn, 1) := by decide +kernel
theorem dX4_lay_9 : decode cX4_lay 9 = .ok (.aload_n 0, 1) := by decide +kernel
theorem dX4_lay_10 : decode cX4_lay 10 = .ok (.getfield 53, 3) := by decide +kernel
theorem dX4_lay_13 : decode cX4_lay 13 = .ok (.iload_n 1, 1) := by decide +kernel
theorem dX4_lay_14 : decode cX4_lay 14 = .ok (.iaload, 1) := by decide +kernel
theorem dX4_lay_15 : decode cX4_lay 15 = .ok (.ifCond .ge 6, 3) := by decide +kernel
theorem dX4_lay_18 : decode cX4_lay 18 = .ok (.bipush (-11), 2) := by decide +kernel
theorem dX4_lay_20 : decode cX4_lay 20 = .ok (.ireturn, 1) := by decide +kernel
theorem dX4_lay_21 : decode cX4_lay 21 = .ok (.iload_n 2, 1) := by decide +kernel
theorem dX4_lay_22 : decode cX4_lay 22 = .ok (.ifCond .lt 13, 3) := by decide +kernel
theorem dX4_lay_25 : decode cX4_lay 25 = .ok (.iload_n 2, 1) := by decide +kernel
theorem dX4_lay_26 : decode cX4_lay 26 = .ok (.aload_n 0, 1) := by decide +kernel
theorem dX4_lay_27 : decode cX4_lay 27 = .ok (.getfield 53, 3) := by decide +kernel
theorem dX4_lay_30 : decode cX4_lay 30 = .ok (.iload_n 1, 1) := by decide +kernel
theorem dX4_lay_31 : decode cX4_lay 31 = .ok (.iaload, 1) := by decide +kernel
theorem dX4_lay_32 : decode cX4_lay 32 = .ok (.if_icmp .lt 6, 3) := by decide +kernel
theorem dX4_lay_35 : decode cX4_lay 35 = .ok (.bipush (-13), 2) := by decide +kernel
theorem dX4_lay_37 : decode cX4_lay 37 = .ok (.ireturn, 1) := by decide +kernel
theorem dX4_lay_38 : decode cX4_lay 38 = .ok (.aload_n 0, 1) := by decide +kernel
theorem dX4_lay_39 : decode cX4_lay 39 = .ok (.getfield 50, 3) := by decide +kernel
theorem dX4_lay_42 : decode cX4_lay 42 = .ok (.iload_n 1, 1) := by decide +kernel
theorem dX4_lay_43 : decode cX4_lay 43 = .ok (.aaload, 1) := by decide +kernel
theorem dX4_lay_44 : decode cX4_lay 44 = .ok (.iload_n 2, 1) := by decide +kernel
theorem dX4_lay_45 : decode cX4_lay 45 = .ok (.lload_n 3, 1) := by decide +kernel
theorem dX4_lay_46 : decode cX4_lay 46 = .ok (.lastore, 1) := by decide +kernel
theorem dX4_lay_47 : decode cX4_lay 47 = .ok (.iconst 1, 1) := by decide +kernel
theorem dX4_lay_48 : decode cX4_lay 48 = .ok (.ireturn, 1) := by decide +kernel
section
variable {p : Program} {l : Launch} {e : Env} {s : State} {m : MethodId} {args : Array Value} {below : List Frame} {meth : Method} {c : Code} {Q : State → Prop} {G : GG} {A : Nat → Prop} {q : Nat → Nat} {fr : va_W}
def f_X4_lay (aSz : Nat → Int32) (M : Nat → Nat → Int64) (v1 : Int32) (v2 : Int32) (v3 : Int64) : Option (Int32 × (Nat → Nat → Int64)) :=
  (f_X4_isList v1).bind fun z1 =>
  if z1 = 0 then
  some ((-1), M)
  else
  if inb v1 3 then
  if 0 ≤ (aSz v1.toNatClampNeg) then
  if v2 < 0 then
  some ((-13), M)
  else
  if inb v1 3 then
  if v2 < (aSz v1.toNatClampNeg) then
  if inb v1 3 then
  if inb v2 (rl (4 + v1.toNatClampNeg)) then
  some (1, (va_up M (4 + v1.toNatClampNeg) (vp_updL (M (4 + v1.toNatClampNeg)) v2.toNatClampNeg v3)))
  else none
  else none
  else
  some ((-13), M)
  else none
  else
  some ((-11), M)
  else none
set_option maxHeartbeats 4000000 in
set_option maxRecDepth 100000 in
theorem k_X4_lay {l : Launch} {G : GG} {q : Nat → Nat} {fr : va_W}  {zp : Int32} {ze : Int32} {zf : Int32} {zg : Int32} {zn : Int32} {aG : Nat → Int32} {aW : Nat → Int32} {aR : Nat → Int32} {aN : Nat → Int32} {aF : Nat → Int32} {lC : Nat → Int64} {lS : Nat → Int64} {lP : Nat → Int64} {lX : Nat → Int64} {ztc : Int32} {aTs : Nat → Int32} {aTn : Nat → Int32} {zoc : Int32} {aOs : Nat → Int32} {aOn : Nat → Int32} {aTp : Nat → Int32} {zln : Int32} {zpl : Int32} {zfa : Int32} {aSz : Nat → Int32} {zit : Int32} {zip : Int32} {zic : Int32} {zig : Int32} {M : Nat → Nat → Int64} {v1 : Int32} {v2 : Int32} {v3 : Int64} {z : Int32 × (Nat → Nat → Int64)}  (h : f_X4_lay aSz M v1 v2 v3 = some z) : Ct l G yX4_lay cX4_lay 5 (some .int) 1 20 [.ref (q 21), .int v1, .int v2, .long v3] (kW G q zp ze zf zg zn aG aW aR aN aF lC lS lP lX ++ (oW G q ztc aTs aTn zoc aOs aOn aTp zln zpl zfa aSz zit zip zic zig M ++ fr)) (some (.int z.1)) (kW G q zp ze zf zg zn aG aW aR aN aF lC lS lP lX ++ (oW G q ztc aTs aTn zoc aOs aOn aTp zln zpl zfa aSz zit zip zic zig z.2 ++ fr)) := by
  refine Ct.of (by decide +kernel) (Nat.le_of_ble_eq_true rfl) trivial ?_
  intro p e s m args below meth c Q A ls F hw hA hE hl
  have hx := F.x
  have hb := F.b
  unfold f_X4_lay at h
  obtain ⟨H, hH⟩ : ∃ H, H = s.heap := ⟨_, rfl⟩
  obtain ⟨locs, hlo⟩ : ∃ locs : List Loc, locs = [] := ⟨_, rfl⟩
  rw [← hH, ← hlo] at hw ⊢
  have hl : lv_has ls 5 [(0, .ref (q 21)), (1, .int v1), (2, .int v2), (3, .long v3)] := hl
  refine lv_iload_n hx hb dX4_lay_0 rfl (lv_at hl 1 rfl) ?_
  obtain ⟨z1, hz1, h⟩ := stB h
  refine ctS (av := [.int v1]) (st0 := ([] : List Value)) (st1 := ([.int z1] : List Value)) F hw hA (k_X4_isList hz1) kl_4_185 kd_X4_isList rfl ⟨by decide, by decide⟩ hl.1 rfl (Nat.le_of_ble_eq_true rfl) dX4_lay_1 rfl (fun H locs hw => ?_)
  refine lv_if_ne (tgt := 9) hx hb dX4_lay_4 (by decide) (fun c2 => ?_) (fun c2 => ?_)
  · replace h := stF c2 h
    refine lv_aload_n hx hb dX4_lay_9 rfl (lv_at hl 0 rfl) ?_
    refine gf_4_53 F hw dX4_lay_10 ?_
    refine lv_iload_n hx hb dX4_lay_13 rfl (lv_at hl 1 rfl) ?_
    obtain ⟨g3, h⟩ := stG h
    refine al_c24 F hw g3 dX4_lay_14 ?_
    refine lv_if_ge (tgt := 21) hx hb dX4_lay_15 (by decide) (fun c4 => ?_) (fun c4 => ?_)
    · replace h := stT c4 h
      refine lv_iload_n hx hb dX4_lay_21 rfl (lv_at hl 2 rfl) ?_
      refine lv_if_lt (tgt := 35) hx hb dX4_lay_22 (by decide) (fun c5 => ?_) (fun c5 => ?_)
      · replace h := stT c5 h
        refine lv_bipush (v := -13) hx hb dX4_lay_35 (by decide) ?_
        obtain rfl := Option.some.inj h
        exact hE H locs _ ls hw dX4_lay_37
      · replace h := stF c5 h
        refine lv_iload_n hx hb dX4_lay_25 rfl (lv_at hl 2 rfl) ?_
        refine lv_aload_n hx hb dX4_lay_26 rfl (lv_at hl 0 rfl) ?_
        refine gf_4_53 F hw dX4_lay_27 ?_
        refine lv_iload_n hx hb dX4_lay_30 rfl (lv_at hl 1 rfl) ?_
        obtain ⟨g6, h⟩ := stG h
        refine al_c24 F hw g6 dX4_lay_31 ?_
        refine lv_icmp_lt (tgt := 38) hx hb dX4_lay_32 (by decide) (fun c7 => ?_) (fun c7 => ?_)
        · replace h := stT c7 h
          refine lv_aload_n hx hb dX4_lay_38 rfl (lv_at hl 0 rfl) ?_
          refine gf_4_50 F hw dX4_lay_39 ?_
          refine lv_iload_n hx hb dX4_lay_42 rfl (lv_at hl 1 rfl) ?_
          obtain ⟨g8, h⟩ := stG h
          refine aq_c23 F hw g8 dX4_lay_43 ?_
          refine lv_iload_n hx hb dX4_lay_44 rfl (lv_at hl 2 rfl) ?_
          refine lv_lload_n hx hb dX4_lay_45 rfl (lv_at hl 3 rfl) ?_
          obtain ⟨g9, h⟩ := stG h
          refine as_row F hw (Nat.lt_of_lt_of_le (Nat.add_lt_add_left (inb_lt g8) 4) (by decide)) g9 dX4_lay_46 (fun H locs hw => ?_)
          refine lv_iconst (v := 1) hx hb dX4_lay_47 (by decide) ?_
          obtain rfl := Option.some.inj h
          exact hE H locs _ ls hw dX4_lay_48
        · replace h := stF c7 h
          refine lv_bipush (v := -13) hx hb dX4_lay_35 (by decide) ?_
          obtain rfl := Option.some.inj h
          exact hE H locs _ ls hw dX4_lay_37
    · replace h := stF c4 h
      refine lv_bipush (v := -11) hx hb dX4_lay_18 (by decide) ?_
      obtain rfl := Option.some.inj h
      exact hE H locs _ ls hw dX4_lay_20
  · replace h := stT c2 h
    refine lv_iconst (v := -1) hx hb dX4_lay_7 (by decide) ?_
    obtain rfl := Option.some.inj h
    exact hE H locs _ ls hw dX4_lay_8
end
theorem dX4_get_0 : decode cX4_get 0 = .ok (.iload_n 1, 1) := by decide +kernel
theorem dX4_get_1 : decode cX4_get 1 = .ok (.invokestatic 185, 3) := by decide +kernel
theorem dX4_get_4 : decode cX4_get 4 = .ok (.ifCond .eq 17, 3) := by decide +kernel
theorem dX4_get_7 : decode cX4_get 7 = .ok (.iload_n 2, 1) := by decide +kernel
theorem dX4_get_8 : decode cX4_get 8 = .ok (.ifCond .lt 13, 3) := by decide +kernel
theorem dX4_get_11 : decode cX4_get 11 = .ok (.iload_n 2, 1) := by decide +kernel
theorem dX4_get_12 : decode cX4_get 12 = .ok (.aload_n 0, 1) := by decide +kernel
theorem dX4_get_13 : decode cX4_get 13 = .ok (.getfield 53, 3) := by decide +kernel
theorem dX4_get_16 : decode cX4_get 16 = .ok (.iload_n 1, 1) := by decide +kernel
theorem dX4_get_17 : decode cX4_get 17 = .ok (.iaload, 1) := by decide +kernel
theorem dX4_get_18 : decode cX4_get 18 = .ok (.if_icmp .lt 7, 3) := by decide +kernel
theorem dX4_get_21 : decode cX4_get 21 = .ok (.ldc2_w 126, 3) := by decide +kernel
theorem dX4_get_24 : decode cX4_get 24 = .ok (.lreturn, 1) := by decide +kernel
theorem dX4_get_25 : decode cX4_get 25 = .ok (.aload_n 0, 1) := by decide +kernel
theorem dX4_get_26 : decode cX4_get 26 = .ok (.getfield 50, 3) := by decide +kernel
theorem dX4_get_29 : decode cX4_get 29 = .ok (.iload_n 1, 1) := by decide +kernel
theorem dX4_get_30 : decode cX4_get 30 = .ok (.aaload, 1) := by decide +kernel
theorem dX4_get_31 : decode cX4_get 31 = .ok (.iload_n 2, 1) := by decide +kernel
theorem dX4_get_32 : decode cX4_get 32 = .ok (.laload, 1) := by decide +kernel
theorem dX4_get_33 : decode cX4_get 33 = .ok (.lreturn, 1) := by decide +kernel
section
variable {p : Program} {l : Launch} {e : Env} {s : State} {m : MethodId} {args : Array Value} {below : List Frame} {meth : Method} {c : Code} {Q : State → Prop} {G : GG} {A : Nat → Prop} {q : Nat → Nat} {fr : va_W}
def f_X4_get (aSz : Nat → Int32) (M : Nat → Nat → Int64) (v1 : Int32) (v2 : Int32) : Option (Int64) :=
  (f_X4_isList v1).bind fun z1 =>
  if z1 = 0 then
  some (-9223372036854775808)
  else
  if v2 < 0 then
  some (-9223372036854775808)
  else
  if inb v1 3 then
  if v2 < (aSz v1.toNatClampNeg) then
  if inb v1 3 then
  if inb v2 (rl (4 + v1.toNatClampNeg)) then
  some (M (4 + v1.toNatClampNeg) v2.toNatClampNeg)
  else none
  else none
  else
  some (-9223372036854775808)
  else none
set_option maxHeartbeats 4000000 in
set_option maxRecDepth 100000 in
theorem k_X4_get {l : Launch} {G : GG} {q : Nat → Nat} {fr : va_W}  {zp : Int32} {ze : Int32} {zf : Int32} {zg : Int32} {zn : Int32} {aG : Nat → Int32} {aW : Nat → Int32} {aR : Nat → Int32} {aN : Nat → Int32} {aF : Nat → Int32} {lC : Nat → Int64} {lS : Nat → Int64} {lP : Nat → Int64} {lX : Nat → Int64} {ztc : Int32} {aTs : Nat → Int32} {aTn : Nat → Int32} {zoc : Int32} {aOs : Nat → Int32} {aOn : Nat → Int32} {aTp : Nat → Int32} {zln : Int32} {zpl : Int32} {zfa : Int32} {aSz : Nat → Int32} {zit : Int32} {zip : Int32} {zic : Int32} {zig : Int32} {M : Nat → Nat → Int64} {v1 : Int32} {v2 : Int32} {z : Int64}  (h : f_X4_get aSz M v1 v2 = some z) : Ct l G yX4_get cX4_get 3 (some .long) 1 20 [.ref (q 21), .int v1, .int v2] (kW G q zp ze zf zg zn aG aW aR aN aF lC lS lP lX ++ (oW G q ztc aTs aTn zoc aOs aOn aTp zln zpl zfa aSz zit zip zic zig M ++ fr)) (some (.long z)) (kW G q zp ze zf zg zn aG aW aR aN aF lC lS lP lX ++ (oW G q ztc aTs aTn zoc aOs aOn aTp zln zpl zfa aSz zit zip zic zig M ++ fr)) := by
  refine Ct.of (by decide +kernel) (Nat.le_of_ble_eq_true rfl) trivial ?_
  intro p e s m args below meth c Q A ls F hw hA hE hl
  have hx := F.x
  have hb := F.b
  unfold f_X4_get at h
  obtain ⟨H, hH⟩ : ∃ H, H = s.heap := ⟨_, rfl⟩
  obtain ⟨locs, hlo⟩ : ∃ locs : List Loc, locs = [] := ⟨_, rfl⟩
  rw [← hH, ← hlo] at hw ⊢
  have hl : lv_has ls 3 [(0, .ref (q 21)), (1, .int v1), (2, .int v2)] := hl
  refine lv_iload_n hx hb dX4_get_0 rfl (lv_at hl 1 rfl) ?_
  obtain ⟨z1, hz1, h⟩ := stB h
  refine ctS (av := [.int v1]) (st0 := ([] : List Value)) (st1 := ([.int z1] : List Value)) F hw hA (k_X4_isList hz1) kl_4_185 kd_X4_isList rfl ⟨by decide, by decide⟩ hl.1 rfl (Nat.le_of_ble_eq_true rfl) dX4_get_1 rfl (fun H locs hw => ?_)
  refine lv_if_eq (tgt := 21) hx hb dX4_get_4 (by decide) (fun c2 => ?_) (fun c2 => ?_)
  · replace h := stT c2 h
    refine lv_ldc2 (v := -9223372036854775808) hx hb F.ow (F.ts _ kc_4_126) dX4_get_21 ?_
    obtain rfl := Option.some.inj h
    exact hE H locs _ ls hw dX4_get_24
  · replace h := stF c2 h
    refine lv_iload_n hx hb dX4_get_7 rfl (lv_at hl 2 rfl) ?_
    refine lv_if_lt (tgt := 21) hx hb dX4_get_8 (by decide) (fun c3 => ?_) (fun c3 => ?_)
    · replace h := stT c3 h
      refine lv_ldc2 (v := -9223372036854775808) hx hb F.ow (F.ts _ kc_4_126) dX4_get_21 ?_
      obtain rfl := Option.some.inj h
      exact hE H locs _ ls hw dX4_get_24
    · replace h := stF c3 h
      refine lv_iload_n hx hb dX4_get_11 rfl (lv_at hl 2 rfl) ?_
      refine lv_aload_n hx hb dX4_get_12 rfl (lv_at hl 0 rfl) ?_
      refine gf_4_53 F hw dX4_get_13 ?_
      refine lv_iload_n hx hb dX4_get_16 rfl (lv_at hl 1 rfl) ?_
      obtain ⟨g4, h⟩ := stG h
      refine al_c24 F hw g4 dX4_get_17 ?_
      refine lv_icmp_lt (tgt := 25) hx hb dX4_get_18 (by decide) (fun c5 => ?_) (fun c5 => ?_)
      · replace h := stT c5 h
        refine lv_aload_n hx hb dX4_get_25 rfl (lv_at hl 0 rfl) ?_
        refine gf_4_50 F hw dX4_get_26 ?_
        refine lv_iload_n hx hb dX4_get_29 rfl (lv_at hl 1 rfl) ?_
        obtain ⟨g6, h⟩ := stG h
        refine aq_c23 F hw g6 dX4_get_30 ?_
        refine lv_iload_n hx hb dX4_get_31 rfl (lv_at hl 2 rfl) ?_
        obtain ⟨g7, h⟩ := stG h
        refine al_row F hw (Nat.lt_of_lt_of_le (Nat.add_lt_add_left (inb_lt g6) 4) (by decide)) g7 dX4_get_32 ?_
        obtain rfl := Option.some.inj h
        exact hE H locs _ ls hw dX4_get_33
      · replace h := stF c5 h
        refine lv_ldc2 (v := -9223372036854775808) hx hb F.ow (F.ts _ kc_4_126) dX4_get_21 ?_
        obtain rfl := Option.some.inj h
        exact hE H locs _ ls hw dX4_get_24
end
theorem dX4_film_0 : decode cX4_film 0 = .ok (.iload_n 1, 1) := by decide +kernel
theorem dX4_film_1 : decode cX4_film 1 = .ok (.invokestatic 185, 3) := by decide +kernel
theorem dX4_film_4 : decode cX4_film 4 = .ok (.ifCond .eq 10, 3) := by decide +kernel
theorem dX4_film_7 : decode cX4_film 7 = .ok (.iload_n 2, 1) := by decide +kernel
theorem dX4_film_8 : decode cX4_film 8 = .ok (.invokestatic 132, 3) := by decide +kernel
theorem dX4_film_11 : decode cX4_film 11 = .ok (.ifCond .ne 5, 3) := by decide +kernel
theorem dX4_film_14 : decode cX4_film 14 = .ok (.iconst (-1), 1) := by decide +kernel
theorem dX4_film_15 : decode cX4_film 15 = .ok (.ireturn, 1) := by decide +kernel
theorem dX4_film_16 : decode cX4_film 16 = .ok (.aload_n 0, 1) := by decide +kernel
theorem dX4_film_17 : decode cX4_film 17 = .ok (.getfield 53, 3) := by decide +kernel
theorem dX4_film_20 : decode cX4_film 20 = .ok (.iload_n 1, 1) := by decide +kernel
theorem dX4_film_21 : decode cX4_film 21 = .ok (.aload_n 0, 1) := by decide +kernel
theorem dX4_film_22 : decode cX4_film 22 = .ok (.getfield 14, 3) := by decide +kernel
theorem dX4_film_25 : decode cX4_film 25 = .ok (.getfield 75, 3) := by decide +kernel
theorem dX4_film_28 : decode cX4_film 28 = .ok (.iastore, 1) := by decide +kernel
theorem dX4_film_29 : decode cX4_film 29 = .ok (.aload_n 0, 1) := by decide +kernel
theorem dX4_film_30 : decode cX4_film 30 = .ok (.getfield 47, 3) := by decide +kernel
theorem dX4_film_33 : decode cX4_film 33 = .ok (.iload_n 2, 1) := by decide +kernel
theorem dX4_film_34 : decode cX4_film 34 = .ok (.aaload, 1) := by decide +kernel
theorem dX4_film_35 : decode cX4_film 35 = .ok (.aload_n 0, 1) := by decide +kernel
theorem dX4_film_36 : decode cX4_film 36 = .ok (.getfield 50, 3) := by decide +kernel
theorem dX4_film_39 : decode cX4_film 39 = .ok (.iload_n 1, 1) := by decide +kernel
theorem dX4_film_40 : decode cX4_film 40 = .ok (.aaload, 1) := by decide +kernel
theorem dX4_film_41 : decode cX4_film 41 = .ok (.invokestatic 188, 3) := by decide +kernel
theorem dX4_film_44 : decode cX4_film 44 = .ok (.aload_n 0, 1) := by decide +kernel
theorem dX4_film_45 : decode cX4_film 45 = .ok (.getfield 14, 3) := by decide +kernel
theorem dX4_film_48 : decode cX4_film 48 = .ok (.getfield 75, 3) := by decide +kernel
theorem dX4_film_51 : decode cX4_film 51 = .ok (.ireturn, 1) := by decide +kernel
section
variable {p : Program} {l : Launch} {e : Env} {s : State} {m : MethodId} {args : Array Value} {below : List Frame} {meth : Method} {c : Code} {Q : State → Prop} {G : GG} {A : Nat → Prop} {q : Nat → Nat} {fr : va_W}
def f_X4_film (ze : Int32) (aSz : Nat → Int32) (M : Nat → Nat → Int64) (v1 : Int32) (v2 : Int32) : Option (Int32 × (Nat → Int32) × (Nat → Nat → Int64)) :=
  (f_X4_isList v1).bind fun z1 =>
  if z1 = 0 then
  some ((-1), aSz, M)
  else
  (f_X4_isShelf v2).bind fun z3 =>
  if z3 = 0 then
  some ((-1), aSz, M)
  else
  if inb v1 3 then
  if inb v2 4 then
  if inb v1 3 then
  (f_X4_copyRow M (0 + v2.toNatClampNeg) (4 + v1.toNatClampNeg)).bind fun z8 =>
  some (ze, (upd aSz v1.toNatClampNeg ze), z8)
  else none
  else none
  else none
set_option maxHeartbeats 4000000 in
set_option maxRecDepth 100000 in
theorem k_X4_film {l : Launch} {G : GG} {q : Nat → Nat} {fr : va_W}  {zp : Int32} {ze : Int32} {zf : Int32} {zg : Int32} {zn : Int32} {aG : Nat → Int32} {aW : Nat → Int32} {aR : Nat → Int32} {aN : Nat → Int32} {aF : Nat → Int32} {lC : Nat → Int64} {lS : Nat → Int64} {lP : Nat → Int64} {lX : Nat → Int64} {ztc : Int32} {aTs : Nat → Int32} {aTn : Nat → Int32} {zoc : Int32} {aOs : Nat → Int32} {aOn : Nat → Int32} {aTp : Nat → Int32} {zln : Int32} {zpl : Int32} {zfa : Int32} {aSz : Nat → Int32} {zit : Int32} {zip : Int32} {zic : Int32} {zig : Int32} {M : Nat → Nat → Int64} {v1 : Int32} {v2 : Int32} {z : Int32 × (Nat → Int32) × (Nat → Nat → Int64)}  (h : f_X4_film ze aSz M v1 v2 = some z) : Ct l G yX4_film cX4_film 3 (some .int) 1 22 [.ref (q 21), .int v1, .int v2] (kW G q zp ze zf zg zn aG aW aR aN aF lC lS lP lX ++ (oW G q ztc aTs aTn zoc aOs aOn aTp zln zpl zfa aSz zit zip zic zig M ++ fr)) (some (.int z.1)) (kW G q zp ze zf zg zn aG aW aR aN aF lC lS lP lX ++ (oW G q ztc aTs aTn zoc aOs aOn aTp zln zpl zfa z.2.1 zit zip zic zig z.2.2 ++ fr)) := by
  refine Ct.of (by decide +kernel) (Nat.le_of_ble_eq_true rfl) trivial ?_
  intro p e s m args below meth c Q A ls F hw hA hE hl
  have hx := F.x
  have hb := F.b
  unfold f_X4_film at h
  obtain ⟨H, hH⟩ : ∃ H, H = s.heap := ⟨_, rfl⟩
  obtain ⟨locs, hlo⟩ : ∃ locs : List Loc, locs = [] := ⟨_, rfl⟩
  rw [← hH, ← hlo] at hw ⊢
  have hl : lv_has ls 3 [(0, .ref (q 21)), (1, .int v1), (2, .int v2)] := hl
  refine lv_iload_n hx hb dX4_film_0 rfl (lv_at hl 1 rfl) ?_
  obtain ⟨z1, hz1, h⟩ := stB h
  refine ctS (av := [.int v1]) (st0 := ([] : List Value)) (st1 := ([.int z1] : List Value)) F hw hA (k_X4_isList hz1) kl_4_185 kd_X4_isList rfl ⟨by decide, by decide⟩ hl.1 rfl (Nat.le_of_ble_eq_true rfl) dX4_film_1 rfl (fun H locs hw => ?_)
  refine lv_if_eq (tgt := 14) hx hb dX4_film_4 (by decide) (fun c2 => ?_) (fun c2 => ?_)
  · replace h := stT c2 h
    refine lv_iconst (v := -1) hx hb dX4_film_14 (by decide) ?_
    obtain rfl := Option.some.inj h
    exact hE H locs _ ls hw dX4_film_15
  · replace h := stF c2 h
    refine lv_iload_n hx hb dX4_film_7 rfl (lv_at hl 2 rfl) ?_
    obtain ⟨z3, hz3, h⟩ := stB h
    refine ctS (av := [.int v2]) (st0 := ([] : List Value)) (st1 := ([.int z3] : List Value)) F hw hA (k_X4_isShelf hz3) kl_4_132 kd_X4_isShelf rfl ⟨by decide, by decide⟩ hl.1 rfl (Nat.le_of_ble_eq_true rfl) dX4_film_8 rfl (fun H locs hw => ?_)
    refine lv_if_ne (tgt := 16) hx hb dX4_film_11 (by decide) (fun c4 => ?_) (fun c4 => ?_)
    · replace h := stF c4 h
      refine lv_aload_n hx hb dX4_film_16 rfl (lv_at hl 0 rfl) ?_
      refine gf_4_53 F hw dX4_film_17 ?_
      refine lv_iload_n hx hb dX4_film_20 rfl (lv_at hl 1 rfl) ?_
      refine lv_aload_n hx hb dX4_film_21 rfl (lv_at hl 0 rfl) ?_
      refine gf_4_14 F hw dX4_film_22 ?_
      refine gf_4_75 F hw dX4_film_25 ?_
      obtain ⟨g5, h⟩ := stG h
      refine as_c24 F hw g5 dX4_film_28 (fun H locs hw => ?_)
      refine lv_aload_n hx hb dX4_film_29 rfl (lv_at hl 0 rfl) ?_
      refine gf_4_47 F hw dX4_film_30 ?_
      refine lv_iload_n hx hb dX4_film_33 rfl (lv_at hl 2 rfl) ?_
      obtain ⟨g6, h⟩ := stG h
      refine aq_c22 F hw g6 dX4_film_34 ?_
      refine lv_aload_n hx hb dX4_film_35 rfl (lv_at hl 0 rfl) ?_
      refine gf_4_50 F hw dX4_film_36 ?_
      refine lv_iload_n hx hb dX4_film_39 rfl (lv_at hl 1 rfl) ?_
      obtain ⟨g7, h⟩ := stG h
      refine aq_c23 F hw g7 dX4_film_40 ?_
      obtain ⟨z8, hz8, h⟩ := stB h
      refine ctS (av := [.ref (q (26 + (0 + v2.toNatClampNeg))), .ref (q (26 + (4 + v1.toNatClampNeg)))]) (st0 := ([] : List Value)) (st1 := ([] : List Value)) F hw hA (k_X4_copyRow (Nat.lt_of_lt_of_le (Nat.add_lt_add_left (inb_lt g6) 0) (by decide)) (Nat.lt_of_lt_of_le (Nat.add_lt_add_left (inb_lt g7) 4) (by decide)) hz8) kl_4_188 kd_X4_copyRow rfl ⟨by decide, by decide⟩ hl.1 rfl (Nat.le_of_ble_eq_true rfl) dX4_film_41 rfl (fun H locs hw => ?_)
      refine lv_aload_n hx hb dX4_film_44 rfl (lv_at hl 0 rfl) ?_
      refine gf_4_14 F hw dX4_film_45 ?_
      refine gf_4_75 F hw dX4_film_48 ?_
      obtain rfl := Option.some.inj h
      exact hE H locs _ ls hw dX4_film_51
    · replace h := stT c4 h
      refine lv_iconst (v := -1) hx hb dX4_film_14 (by decide) ?_
      obtain rfl := Option.some.inj h
      exact hE H locs _ ls hw dX4_film_15
end
theorem dX4_judge_0 : decode cX4_judge 0 = .ok (.iload_n 1, 1) := by decide +kernel
theorem dX4_judge_1 : decode cX4_judge 1 = .ok (.invokestatic 185, 3) := by decide +kernel
theorem dX4_judge_4 : decode cX4_judge 4 = .ok (.ifCond .eq 11, 3) := by decide +kernel
theorem dX4_judge_7 : decode cX4_judge 7 = .ok (.aload_n 0, 1) := by decide +kernel
theorem dX4_judge_8 : decode cX4_judge 8 = .ok (.iload_n 2, 1) := by decide +kernel
theorem dX4_judge_9 : decode cX4_judge 9 = .ok (.invokevirtual 103, 3) := by decide +kernel
theorem dX4_judge_12 : decode cX4_judge 12 = .ok (.ifCond .ne 5, 3) := by decide +kernel
theorem dX4_judge_15 : decode cX4_judge 15 = .ok (.iconst (-1), 1) := by decide +kernel
theorem dX4_judge_16 : decode cX4_judge 16 = .ok (.ireturn, 1) := by decide +kernel
theorem dX4_judge_17 : decode cX4_judge 17 = .ok (.aload_n 0, 1) := by decide +kernel
theorem dX4_judge_18 : decode cX4_judge 18 = .ok (.getfield 53, 3) := by decide +kernel
theorem dX4_judge_21 : decode cX4_judge 21 = .ok (.iload_n 1, 1) := by decide +kernel
theorem dX4_judge_22 : decode cX4_judge 22 = .ok (.iaload, 1) := by decide +kernel
theorem dX4_judge_23 : decode cX4_judge 23 = .ok (.istore_n 3, 1) := by decide +kernel
theorem dX4_judge_24 : decode cX4_judge 24 = .ok (.iload_n 3, 1) := by decide +kernel
theorem dX4_judge_25 : decode cX4_judge 25 = .ok (.ifCond .ge 6, 3) := by decide +kernel
theorem dX4_judge_28 : decode cX4_judge 28 = .ok (.bipush (-11), 2) := by decide +kernel
theorem dX4_judge_30 : decode cX4_judge 30 = .ok (.ireturn, 1) := by decide +kernel
theorem dX4_judge_31 : decode cX4_judge 31 = .ok (.iconst 0, 1) := by decide +kernel
theorem dX4_judge_32 : decode cX4_judge 32 = .ok (.istore 4, 2) := by decide +kernel
theorem dX4_judge_34 : decode cX4_judge 34 = .ok (.iload 4, 2) := by decide +kernel
theorem dX4_judge_36 : decode cX4_judge 36 = .ok (.iload_n 3, 1) := by decide +kernel
theorem dX4_judge_37 : decode cX4_judge 37 = .ok (.if_icmp .ge 53, 3) := by decide +kernel
theorem dX4_judge_40 : decode cX4_judge 40 = .ok (.iload 4, 2) := by decide +kernel
theorem dX4_judge_42 : decode cX4_judge 42 = .ok (.aload_n 0, 1) := by decide +kernel
theorem dX4_judge_43 : decode cX4_judge 43 = .ok (.getfield 14, 3) := by decide +kernel
theorem dX4_judge_46 : decode cX4_judge 46 = .ok (.getfield 75, 3) := by decide +kernel
theorem dX4_judge_49 : decode cX4_judge 49 = .ok (.if_icmp .ge 32, 3) := by decide +kernel
theorem dX4_judge_52 : decode cX4_judge 52 = .ok (.aload_n 0, 1) := by decide +kernel
theorem dX4_judge_53 : decode cX4_judge 53 = .ok (.getfield 50, 3) := by decide +kernel
theorem dX4_judge_56 : decode cX4_judge 56 = .ok (.iload_n 1, 1) := by decide +kernel
theorem dX4_judge_57 : decode cX4_judge 57 = .ok (.aaload, 1) := by decide +kernel
theorem dX4_judge_58 : decode cX4_judge 58 = .ok (.iload 4, 2) := by decide +kernel
theorem dX4_judge_60 : decode cX4_judge 60 = .ok (.laload, 1) := by decide +kernel
theorem dX4_judge_61 : decode cX4_judge 61 = .ok (.aload_n 0, 1) := by decide +kernel
theorem dX4_judge_62 : decode cX4_judge 62 = .ok (.getfield 14, 3) := by decide +kernel
theorem dX4_judge_65 : decode cX4_judge 65 = .ok (.getfield 106, 3) := by decide +kernel
theorem dX4_judge_68 : decode cX4_judge 68 = .ok (.iload_n 2, 1) := by decide +kernel
theorem dX4_judge_69 : decode cX4_judge 69 = .ok (.bipush 12, 2) := by decide +kernel
theorem dX4_judge_71 : decode cX4_judge 71 = .ok (.imul, 1) := by decide +kernel
theorem dX4_judge_72 : decode cX4_judge 72 = .ok (.iload 4, 2) := by decide +kernel
theorem dX4_judge_74 : decode cX4_judge 74 = .ok (.iadd, 1) := by decide +kernel
theorem dX4_judge_75 : decode cX4_judge 75 = .ok (.iaload, 1) := by decide +kernel
theorem dX4_judge_76 : decode cX4_judge 76 = .ok (.i2l, 1) := by decide +kernel
theorem dX4_judge_77 : decode cX4_judge 77 = .ok (.lcmp, 1) := by decide +kernel
theorem dX4_judge_78 : decode cX4_judge 78 = .ok (.ifCond .eq 6, 3) := by decide +kernel
theorem dX4_judge_81 : decode cX4_judge 81 = .ok (.iload 4, 2) := by decide +kernel
theorem dX4_judge_83 : decode cX4_judge 83 = .ok (.ireturn, 1) := by decide +kernel
theorem dX4_judge_84 : decode cX4_judge 84 = .ok (.iinc 4 1, 3) := by decide +kernel
theorem dX4_judge_87 : decode cX4_judge 87 = .ok (.goto (-53), 3) := by decide +kernel
theorem dX4_judge_90 : decode cX4_judge 90 = .ok (.iload_n 3, 1) := by decide +kernel
theorem dX4_judge_91 : decode cX4_judge 91 = .ok (.aload_n 0, 1) := by decide +kernel
theorem dX4_judge_92 : decode cX4_judge 92 = .ok (.getfield 14, 3) := by decide +kernel
theorem dX4_judge_95 : decode cX4_judge 95 = .ok (.getfield 75, 3) := by decide +kernel
theorem dX4_judge_98 : decode cX4_judge 98 = .ok (.if_icmp .ge 10, 3) := by decide +kernel
theorem dX4_judge_101 : decode cX4_judge 101 = .ok (.bipush 100, 2) := by decide +kernel
theorem dX4_judge_103 : decode cX4_judge 103 = .ok (.iload_n 3, 1) := by decide +kernel
theorem dX4_judge_104 : decode cX4_judge 104 = .ok (.iadd, 1) := by decide +kernel
theorem dX4_judge_105 : decode cX4_judge 105 = .ok (.goto 5, 3) := by decide +kernel
theorem dX4_judge_108 : decode cX4_judge 108 = .ok (.bipush (-5), 2) := by decide +kernel
theorem dX4_judge_110 : decode cX4_judge 110 = .ok (.ireturn, 1) := by decide +kernel
section
variable {p : Program} {l : Launch} {e : Env} {s : State} {m : MethodId} {args : Array Value} {below : List Frame} {meth : Method} {c : Code} {Q : State → Prop} {G : GG} {A : Nat → Prop} {q : Nat → Nat} {fr : va_W}
def f_X4_judge_L34 (ze : Int32) (aN : Nat → Int32) (aSz : Nat → Int32) (M : Nat → Nat → Int64) (v1 : Int32) (v2 : Int32) : Nat → Int32 → Int32 → Option (Int32)
  | 0, _, _ => none
  | fu + 1, v3, v4 =>
    if v3 ≤ v4 then
    if ze ≤ v3 then
    some (-5)
    else
    some (100 + v3)
    else
    if ze ≤ v4 then
    some v4
    else
    if inb v1 3 then
    if inb v4 (rl (4 + v1.toNatClampNeg)) then
    if inb ((v2 * 12) + v4) 144 then
    if (lg_cmp (M (4 + v1.toNatClampNeg) v4.toNatClampNeg) ((aN ((v2 * 12) + v4).toNatClampNeg).toInt64)) = 0 then
    f_X4_judge_L34 ze aN aSz M v1 v2 fu v3 (v4 + 1)
    else
    some v4
    else none
    else none
    else none
set_option maxHeartbeats 4000000 in
set_option maxRecDepth 100000 in
theorem w_X4_judge_L34  {zp : Int32} {ze : Int32} {zf : Int32} {zg : Int32} {zn : Int32} {aG : Nat → Int32} {aW : Nat → Int32} {aR : Nat → Int32} {aN : Nat → Int32} {aF : Nat → Int32} {lC : Nat → Int64} {lS : Nat → Int64} {lP : Nat → Int64} {lX : Nat → Int64} {ztc : Int32} {aTs : Nat → Int32} {aTn : Nat → Int32} {zoc : Int32} {aOs : Nat → Int32} {aOn : Nat → Int32} {aTp : Nat → Int32} {zln : Int32} {zpl : Int32} {zfa : Int32} {aSz : Nat → Int32} {zit : Int32} {zip : Int32} {zic : Int32} {zig : Int32} {M : Nat → Nat → Int64} {v1 : Int32} {v2 : Int32}  (F : Fx p s m args meth c cX4_judge 5 RX4 (some .int)) (hA : ∀ q, s.heap.size ≤ q → A q)   : ∀ (fu : Nat) (v3 : Int32) (v4 : Int32) (z : Int32), f_X4_judge_L34 ze aN aSz M v1 v2 fu v3 v4 = some z → Ends p l e (rmOf 1 21) s m args below meth c Q cX4_judge G A (some .int) (some (.int z)) (kW G q zp ze zf zg zn aG aW aR aN aF lC lS lP lX ++ (oW G q ztc aTs aTn zoc aOs aOn aTp zln zpl zfa aSz zit zip zic zig M ++ fr)) → ∀ (H : Heap) (locs : List Loc) (ls : Array Slot), Wd G s A (kW G q zp ze zf zg zn aG aW aR aN aF lC lS lP lX ++ (oW G q ztc aTs aTn zoc aOs aOn aTp zln zpl zfa aSz zit zip zic zig M ++ fr)) H locs → lv_has ls 5 [(0, .ref (q 21)), (1, .int v1), (2, .int v2), (3, .int v3), (4, .int v4)] → W p l e (rmOf 1 21) s m args below meth c H locs 0 0 Q (F0 m 34 ls []) := by
  have hx := F.x
  have hb := F.b
  intro fu
  induction fu with
  | zero =>
    intro v3 v4 z h
    cases (h : none = some z)
  | succ fu ih =>
    intro v3 v4 z h hE H locs ls hw hl
    rw [f_X4_judge_L34] at h
    refine lv_iload hx hb dX4_judge_34 (lv_at hl 4 rfl) ?_
    refine lv_iload_n hx hb dX4_judge_36 rfl (lv_at hl 3 rfl) ?_
    refine lv_icmp_ge (tgt := 90) hx hb dX4_judge_37 (by decide) (fun c1 => ?_) (fun c1 => ?_)
    · replace h := stT c1 h
      refine lv_iload_n hx hb dX4_judge_90 rfl (lv_at hl 3 rfl) ?_
      refine lv_aload_n hx hb dX4_judge_91 rfl (lv_at hl 0 rfl) ?_
      refine gf_4_14 F hw dX4_judge_92 ?_
      refine gf_4_75 F hw dX4_judge_95 ?_
      refine lv_icmp_ge (tgt := 108) hx hb dX4_judge_98 (by decide) (fun c2 => ?_) (fun c2 => ?_)
      · replace h := stT c2 h
        refine lv_bipush (v := -5) hx hb dX4_judge_108 (by decide) ?_
        obtain rfl := Option.some.inj h
        exact hE H locs _ ls hw dX4_judge_110
      · replace h := stF c2 h
        refine lv_bipush (v := 100) hx hb dX4_judge_101 (by decide) ?_
        refine lv_iload_n hx hb dX4_judge_103 rfl (lv_at hl 3 rfl) ?_
        refine lv_iadd hx hb dX4_judge_104 ?_
        refine lv_goto (tgt := 110) hx hb dX4_judge_105 (by decide) ?_
        obtain rfl := Option.some.inj h
        exact hE H locs _ ls hw dX4_judge_110
    · replace h := stF c1 h
      refine lv_iload hx hb dX4_judge_40 (lv_at hl 4 rfl) ?_
      refine lv_aload_n hx hb dX4_judge_42 rfl (lv_at hl 0 rfl) ?_
      refine gf_4_14 F hw dX4_judge_43 ?_
      refine gf_4_75 F hw dX4_judge_46 ?_
      refine lv_icmp_ge (tgt := 81) hx hb dX4_judge_49 (by decide) (fun c3 => ?_) (fun c3 => ?_)
      · replace h := stT c3 h
        refine lv_iload hx hb dX4_judge_81 (lv_at hl 4 rfl) ?_
        obtain rfl := Option.some.inj h
        exact hE H locs _ ls hw dX4_judge_83
      · replace h := stF c3 h
        refine lv_aload_n hx hb dX4_judge_52 rfl (lv_at hl 0 rfl) ?_
        refine gf_4_50 F hw dX4_judge_53 ?_
        refine lv_iload_n hx hb dX4_judge_56 rfl (lv_at hl 1 rfl) ?_
        obtain ⟨g4, h⟩ := stG h
        refine aq_c23 F hw g4 dX4_judge_57 ?_
        refine lv_iload hx hb dX4_judge_58 (lv_at hl 4 rfl) ?_
        obtain ⟨g5, h⟩ := stG h
        refine al_row F hw (Nat.lt_of_lt_of_le (Nat.add_lt_add_left (inb_lt g4) 4) (by decide)) g5 dX4_judge_60 ?_
        refine lv_aload_n hx hb dX4_judge_61 rfl (lv_at hl 0 rfl) ?_
        refine gf_4_14 F hw dX4_judge_62 ?_
        refine gf_4_106 F hw dX4_judge_65 ?_
        refine lv_iload_n hx hb dX4_judge_68 rfl (lv_at hl 2 rfl) ?_
        refine lv_bipush (v := 12) hx hb dX4_judge_69 (by decide) ?_
        refine lv_imul hx hb dX4_judge_71 ?_
        refine lv_iload hx hb dX4_judge_72 (lv_at hl 4 rfl) ?_
        refine lv_iadd hx hb dX4_judge_74 ?_
        obtain ⟨g6, h⟩ := stG h
        refine al_c4 F hw g6 dX4_judge_75 ?_
        refine lv_i2l (v := (aN ((v2 * 12) + v4).toNatClampNeg).toInt64) hx hb dX4_judge_76 rfl ?_
        refine W.lcmp hx hb dX4_judge_77 ?_
        refine lv_if_eq (tgt := 84) hx hb dX4_judge_78 (by decide) (fun c7 => ?_) (fun c7 => ?_)
        · replace h := stT c7 h
          refine lv_iinc (v := (v4 + 1)) (lv' := [(4, .int (v4 + 1)), (0, .ref (q 21)), (1, .int v1), (2, .int v2), (3, .int v3)]) hx hb dX4_judge_84 hl (k := 4) rfl rfl (by decide) rfl (fun ls hl => ?_)
          refine lv_goto (tgt := 34) hx hb dX4_judge_87 (by decide) ?_
          exact ih _ _ z h hE H locs ls hw (lv_sub hl [1, 2, 3, 4, 0] rfl)
        · replace h := stF c7 h
          refine lv_iload hx hb dX4_judge_81 (lv_at hl 4 rfl) ?_
          obtain rfl := Option.some.inj h
          exact hE H locs _ ls hw dX4_judge_83
def f_X4_judge (ze : Int32) (aN : Nat → Int32) (aSz : Nat → Int32) (M : Nat → Nat → Int64) (v1 : Int32) (v2 : Int32) : Option (Int32) :=
  (f_X4_isList v1).bind fun z1 =>
  if z1 = 0 then
  some (-1)
  else
  (f_X4_isClass ze v2).bind fun z3 =>
  if z3 = 0 then
  some (-1)
  else
  if inb v1 3 then
  if 0 ≤ (aSz v1.toNatClampNeg) then
  f_X4_judge_L34 ze aN aSz M v1 v2 FU (aSz v1.toNatClampNeg) 0
  else
  some (-11)
  else none
set_option maxHeartbeats 4000000 in
set_option maxRecDepth 100000 in
theorem k_X4_judge {l : Launch} {G : GG} {q : Nat → Nat} {fr : va_W}  {zp : Int32} {ze : Int32} {zf : Int32} {zg : Int32} {zn : Int32} {aG : Nat → Int32} {aW : Nat → Int32} {aR : Nat → Int32} {aN : Nat → Int32} {aF : Nat → Int32} {lC : Nat → Int64} {lS : Nat → Int64} {lP : Nat → Int64} {lX : Nat → Int64} {ztc : Int32} {aTs : Nat → Int32} {aTn : Nat → Int32} {zoc : Int32} {aOs : Nat → Int32} {aOn : Nat → Int32} {aTp : Nat → Int32} {zln : Int32} {zpl : Int32} {zfa : Int32} {aSz : Nat → Int32} {zit : Int32} {zip : Int32} {zic : Int32} {zig : Int32} {M : Nat → Nat → Int64} {v1 : Int32} {v2 : Int32} {z : Int32}  (h : f_X4_judge ze aN aSz M v1 v2 = some z) : Ct l G yX4_judge cX4_judge 5 (some .int) 1 21 [.ref (q 21), .int v1, .int v2] (kW G q zp ze zf zg zn aG aW aR aN aF lC lS lP lX ++ (oW G q ztc aTs aTn zoc aOs aOn aTp zln zpl zfa aSz zit zip zic zig M ++ fr)) (some (.int z)) (kW G q zp ze zf zg zn aG aW aR aN aF lC lS lP lX ++ (oW G q ztc aTs aTn zoc aOs aOn aTp zln zpl zfa aSz zit zip zic zig M ++ fr)) := by
  refine Ct.of (by decide +kernel) (Nat.le_of_ble_eq_true rfl) trivial ?_
  intro p e s m args below meth c Q A ls F hw hA hE hl
  have hx := F.x
  have hb := F.b
  unfold f_X4_judge at h
  obtain ⟨H, hH⟩ : ∃ H, H = s.heap := ⟨_, rfl⟩
  obtain ⟨locs, hlo⟩ : ∃ locs : List Loc, locs = [] := ⟨_, rfl⟩
  rw [← hH, ← hlo] at hw ⊢
  have hl : lv_has ls 5 [(0, .ref (q 21)), (1, .int v1), (2, .int v2)] := hl
  refine lv_iload_n hx hb dX4_judge_0 rfl (lv_at hl 1 rfl) ?_
  obtain ⟨z1, hz1, h⟩ := stB h
  refine ctS (av := [.int v1]) (st0 := ([] : List Value)) (st1 := ([.int z1] : List Value)) F hw hA (k_X4_isList hz1) kl_4_185 kd_X4_isList rfl ⟨by decide, by decide⟩ hl.1 rfl (Nat.le_of_ble_eq_true rfl) dX4_judge_1 rfl (fun H locs hw => ?_)
  refine lv_if_eq (tgt := 15) hx hb dX4_judge_4 (by decide) (fun c2 => ?_) (fun c2 => ?_)
  · replace h := stT c2 h
    refine lv_iconst (v := -1) hx hb dX4_judge_15 (by decide) ?_
    obtain rfl := Option.some.inj h
    exact hE H locs _ ls hw dX4_judge_16
  · replace h := stF c2 h
    refine lv_aload_n hx hb dX4_judge_7 rfl (lv_at hl 0 rfl) ?_
    refine lv_iload_n hx hb dX4_judge_8 rfl (lv_at hl 2 rfl) ?_
    obtain ⟨z3, hz3, h⟩ := stB h
    refine ctV (av := [.int v2]) (st0 := ([] : List Value)) (st1 := ([.int z3] : List Value)) F hw hA (k_X4_isClass hz3) kl_4_103 kd_X4_isClass rfl ⟨by decide, by decide⟩ 21 rfl rfl hl.1 rfl (Nat.le_of_ble_eq_true rfl) dX4_judge_9 rfl (fun H locs hw => ?_)
    refine lv_if_ne (tgt := 17) hx hb dX4_judge_12 (by decide) (fun c4 => ?_) (fun c4 => ?_)
    · replace h := stF c4 h
      refine lv_aload_n hx hb dX4_judge_17 rfl (lv_at hl 0 rfl) ?_
      refine gf_4_53 F hw dX4_judge_18 ?_
      refine lv_iload_n hx hb dX4_judge_21 rfl (lv_at hl 1 rfl) ?_
      obtain ⟨g5, h⟩ := stG h
      refine al_c24 F hw g5 dX4_judge_22 ?_
      refine lv_istore_n (lv' := [(3, .int (aSz v1.toNatClampNeg)), (0, .ref (q 21)), (1, .int v1), (2, .int v2)]) hx hb dX4_judge_23 rfl hl (by decide) rfl (fun ls hl => ?_)
      refine lv_iload_n hx hb dX4_judge_24 rfl (lv_at hl 0 rfl) ?_
      refine lv_if_ge (tgt := 31) hx hb dX4_judge_25 (by decide) (fun c6 => ?_) (fun c6 => ?_)
      · replace h := stT c6 h
        refine lv_iconst (v := 0) hx hb dX4_judge_31 (by decide) ?_
        refine lv_istore (lv' := [(4, .int 0), (3, .int (aSz v1.toNatClampNeg)), (0, .ref (q 21)), (1, .int v1), (2, .int v2)]) hx hb dX4_judge_32 hl (by decide) rfl (fun ls hl => ?_)
        exact w_X4_judge_L34 F hA  FU _ _ z h hE H locs ls hw (lv_sub hl [2, 3, 4, 1, 0] rfl)
      · replace h := stF c6 h
        refine lv_bipush (v := -11) hx hb dX4_judge_28 (by decide) ?_
        obtain rfl := Option.some.inj h
        exact hE H locs _ ls hw dX4_judge_30
    · replace h := stT c4 h
      refine lv_iconst (v := -1) hx hb dX4_judge_15 (by decide) ?_
      obtain rfl := Option.some.inj h
      exact hE H locs _ ls hw dX4_judge_16
end
theorem dX4_image_0 : decode cX4_image 0 = .ok (.aload_n 0, 1) := by decide +kernel
theorem dX4_image_1 : decode cX4_image 1 = .ok (.iconst 1, 1) := by decide +kernel
theorem dX4_image_2 : decode cX4_image 2 = .ok (.putfield 192, 3) := by decide +kernel
theorem dX4_image_5 : decode cX4_image 5 = .ok (.aload_n 0, 1) := by decide +kernel
theorem dX4_image_6 : decode cX4_image 6 = .ok (.aload_n 0, 1) := by decide +kernel
theorem dX4_image_7 : decode cX4_image 7 = .ok (.getfield 14, 3) := by decide +kernel
theorem dX4_image_10 : decode cX4_image 10 = .ok (.getfield 64, 3) := by decide +kernel
theorem dX4_image_13 : decode cX4_image 13 = .ok (.putfield 196, 3) := by decide +kernel
theorem dX4_image_16 : decode cX4_image 16 = .ok (.aload_n 0, 1) := by decide +kernel
theorem dX4_image_17 : decode cX4_image 17 = .ok (.aload_n 0, 1) := by decide +kernel
theorem dX4_image_18 : decode cX4_image 18 = .ok (.getfield 14, 3) := by decide +kernel
theorem dX4_image_21 : decode cX4_image 21 = .ok (.getfield 75, 3) := by decide +kernel
theorem dX4_image_24 : decode cX4_image 24 = .ok (.putfield 199, 3) := by decide +kernel
theorem dX4_image_27 : decode cX4_image 27 = .ok (.aload_n 0, 1) := by decide +kernel
theorem dX4_image_28 : decode cX4_image 28 = .ok (.aload_n 0, 1) := by decide +kernel
theorem dX4_image_29 : decode cX4_image 29 = .ok (.getfield 14, 3) := by decide +kernel
theorem dX4_image_32 : decode cX4_image 32 = .ok (.getfield 81, 3) := by decide +kernel
theorem dX4_image_35 : decode cX4_image 35 = .ok (.putfield 202, 3) := by decide +kernel
theorem dX4_image_38 : decode cX4_image 38 = .ok (.iconst 0, 1) := by decide +kernel
theorem dX4_image_39 : decode cX4_image 39 = .ok (.istore_n 1, 1) := by decide +kernel
theorem dX4_image_40 : decode cX4_image 40 = .ok (.iload_n 1, 1) := by decide +kernel
theorem dX4_image_41 : decode cX4_image 41 = .ok (.iconst 4, 1) := by decide +kernel
theorem dX4_image_42 : decode cX4_image 42 = .ok (.if_icmp .ge 24, 3) := by decide +kernel
theorem dX4_image_45 : decode cX4_image 45 = .ok (.aload_n 0, 1) := by decide +kernel
theorem dX4_image_46 : decode cX4_image 46 = .ok (.getfield 47, 3) := by decide +kernel
theorem dX4_image_49 : decode cX4_image 49 = .ok (.iload_n 1, 1) := by decide +kernel
theorem dX4_image_50 : decode cX4_image 50 = .ok (.aaload, 1) := by decide +kernel
theorem dX4_image_51 : decode cX4_image 51 = .ok (.aload_n 0, 1) := by decide +kernel
theorem dX4_image_52 : decode cX4_image 52 = .ok (.getfield 57, 3) := by decide +kernel
theorem dX4_image_55 : decode cX4_image 55 = .ok (.iload_n 1, 1) := by decide +kernel
theorem dX4_image_56 : decode cX4_image 56 = .ok (.aaload, 1) := by decide +kernel
theorem dX4_image_57 : decode cX4_image 57 = .ok (.invokestatic 188, 3) := by decide +kernel
theorem dX4_image_60 : decode cX4_image 60 = .ok (.iinc 1 1, 3) := by decide +kernel
theorem dX4_image_63 : decode cX4_image 63 = .ok (.goto (-23), 3) := by decide +kernel
theorem dX4_image_66 : decode cX4_image 66 = .ok (.aload_n 0, 1) := by decide +kernel
theorem dX4_image_67 : decode cX4_image 67 = .ok (.getfield 14, 3) := by decide +kernel
theorem dX4_image_70 : decode cX4_image 70 = .ok (.getfield 64, 3) := by decide +kernel
theorem dX4_image_73 : decode cX4_image 73 = .ok (.ireturn, 1) := by decide +kernel
section
variable {p : Program} {l : Launch} {e : Env} {s : State} {m : MethodId} {args : Array Value} {below : List Frame} {meth : Method} {c : Code} {Q : State → Prop} {G : GG} {A : Nat → Prop} {q : Nat → Nat} {fr : va_W}
def f_X4_image_L40 (zp : Int32) (ze : Int32) (zg : Int32) : Nat → Int32 → Int32 → Int32 → Int32 → (Nat → Nat → Int64) → Int32 → Option (Int32 × Int32 × Int32 × Int32 × Int32 × (Nat → Nat → Int64))
  | 0, _, _, _, _, _, _ => none
  | fu + 1, zit, zip, zic, zig, M, v1 =>
    if 4 ≤ v1 then
    some (zp, zit, zip, zic, zig, M)
    else
    if inb v1 4 then
    if inb v1 4 then
    (f_X4_copyRow M (0 + v1.toNatClampNeg) (7 + v1.toNatClampNeg)).bind fun z4 =>
    f_X4_image_L40 zp ze zg fu zit zip zic zig z4 (v1 + 1)
    else none
    else none
set_option maxHeartbeats 4000000 in
set_option maxRecDepth 100000 in
theorem w_X4_image_L40  {zp : Int32} {ze : Int32} {zf : Int32} {zg : Int32} {zn : Int32} {aG : Nat → Int32} {aW : Nat → Int32} {aR : Nat → Int32} {aN : Nat → Int32} {aF : Nat → Int32} {lC : Nat → Int64} {lS : Nat → Int64} {lP : Nat → Int64} {lX : Nat → Int64} {ztc : Int32} {aTs : Nat → Int32} {aTn : Nat → Int32} {zoc : Int32} {aOs : Nat → Int32} {aOn : Nat → Int32} {aTp : Nat → Int32} {zln : Int32} {zpl : Int32} {zfa : Int32} {aSz : Nat → Int32}   (F : Fx p s m args meth c cX4_image 2 RX4 (some .int)) (hA : ∀ q, s.heap.size ≤ q → A q)   : ∀ (fu : Nat) (zit : Int32) (zip : Int32) (zic : Int32) (zig : Int32) (M : Nat → Nat → Int64) (v1 : Int32) (z : Int32 × Int32 × Int32 × Int32 × Int32 × (Nat → Nat → Int64)), f_X4_image_L40 zp ze zg fu zit zip zic zig M v1 = some z → Ends p l e (rmOf 1 22) s m args below meth c Q cX4_image G A (some .int) (some (.int z.1)) (kW G q zp ze zf zg zn aG aW aR aN aF lC lS lP lX ++ (oW G q ztc aTs aTn zoc aOs aOn aTp zln zpl zfa aSz z.2.1 z.2.2.1 z.2.2.2.1 z.2.2.2.2.1 z.2.2.2.2.2 ++ fr)) → ∀ (H : Heap) (locs : List Loc) (ls : Array Slot), Wd G s A (kW G q zp ze zf zg zn aG aW aR aN aF lC lS lP lX ++ (oW G q ztc aTs aTn zoc aOs aOn aTp zln zpl zfa aSz zit zip zic zig M ++ fr)) H locs → lv_has ls 2 [(0, .ref (q 21)), (1, .int v1)] → W p l e (rmOf 1 22) s m args below meth c H locs 0 0 Q (F0 m 40 ls []) := by
  have hx := F.x
  have hb := F.b
  intro fu
  induction fu with
  | zero =>
    intro zit zip zic zig M v1 z h
    cases (h : none = some z)
  | succ fu ih =>
    intro zit zip zic zig M v1 z h hE H locs ls hw hl
    rw [f_X4_image_L40] at h
    refine lv_iload_n hx hb dX4_image_40 rfl (lv_at hl 1 rfl) ?_
    refine lv_iconst (v := 4) hx hb dX4_image_41 (by decide) ?_
    refine lv_icmp_ge (tgt := 66) hx hb dX4_image_42 (by decide) (fun c1 => ?_) (fun c1 => ?_)
    · replace h := stT c1 h
      refine lv_aload_n hx hb dX4_image_66 rfl (lv_at hl 0 rfl) ?_
      refine gf_4_14 F hw dX4_image_67 ?_
      refine gf_4_64 F hw dX4_image_70 ?_
      obtain rfl := Option.some.inj h
      exact hE H locs _ ls hw dX4_image_73
    · replace h := stF c1 h
      refine lv_aload_n hx hb dX4_image_45 rfl (lv_at hl 0 rfl) ?_
      refine gf_4_47 F hw dX4_image_46 ?_
      refine lv_iload_n hx hb dX4_image_49 rfl (lv_at hl 1 rfl) ?_
      obtain ⟨g2, h⟩ := stG h
      refine aq_c22 F hw g2 dX4_image_50 ?_
      refine lv_aload_n hx hb dX4_image_51 rfl (lv_at hl 0 rfl) ?_
      refine gf_4_57 F hw dX4_image_52 ?_
      refine lv_iload_n hx hb dX4_image_55 rfl (lv_at hl 1 rfl) ?_
      obtain ⟨g3, h⟩ := stG h
      refine aq_c25 F hw g3 dX4_image_56 ?_
      obtain ⟨z4, hz4, h⟩ := stB h
      refine ctS (av := [.ref (q (26 + (0 + v1.toNatClampNeg))), .ref (q (26 + (7 + v1.toNatClampNeg)))]) (st0 := ([] : List Value)) (st1 := ([] : List Value)) F hw hA (k_X4_copyRow (Nat.lt_of_lt_of_le (Nat.add_lt_add_left (inb_lt g2) 0) (by decide)) (Nat.lt_of_lt_of_le (Nat.add_lt_add_left (inb_lt g3) 7) (by decide)) hz4) kl_4_188 kd_X4_copyRow rfl ⟨by decide, by decide⟩ hl.1 rfl (Nat.le_of_ble_eq_true rfl) dX4_image_57 rfl (fun H locs hw => ?_)
      refine lv_iinc (v := (v1 + 1)) (lv' := [(1, .int (v1 + 1)), (0, .ref (q 21))]) hx hb dX4_image_60 hl (k := 1) rfl rfl (by decide) rfl (fun ls hl => ?_)
      refine lv_goto (tgt := 40) hx hb dX4_image_63 (by decide) ?_
      exact ih _ _ _ _ _ _ z h hE H locs ls hw (lv_sub hl [1, 0] rfl)
def f_X4_image (zp : Int32) (ze : Int32) (zg : Int32) (zit : Int32) (zip : Int32) (zic : Int32) (zig : Int32) (M : Nat → Nat → Int64) : Option (Int32 × Int32 × Int32 × Int32 × Int32 × (Nat → Nat → Int64)) :=
  f_X4_image_L40 zp ze zg FU 1 zp ze zg M 0
set_option maxHeartbeats 4000000 in
set_option maxRecDepth 100000 in
theorem k_X4_image {l : Launch} {G : GG} {q : Nat → Nat} {fr : va_W}  {zp : Int32} {ze : Int32} {zf : Int32} {zg : Int32} {zn : Int32} {aG : Nat → Int32} {aW : Nat → Int32} {aR : Nat → Int32} {aN : Nat → Int32} {aF : Nat → Int32} {lC : Nat → Int64} {lS : Nat → Int64} {lP : Nat → Int64} {lX : Nat → Int64} {ztc : Int32} {aTs : Nat → Int32} {aTn : Nat → Int32} {zoc : Int32} {aOs : Nat → Int32} {aOn : Nat → Int32} {aTp : Nat → Int32} {zln : Int32} {zpl : Int32} {zfa : Int32} {aSz : Nat → Int32} {zit : Int32} {zip : Int32} {zic : Int32} {zig : Int32} {M : Nat → Nat → Int64}  {z : Int32 × Int32 × Int32 × Int32 × Int32 × (Nat → Nat → Int64)}  (h : f_X4_image zp ze zg zit zip zic zig M = some z) : Ct l G yX4_image cX4_image 2 (some .int) 1 22 [.ref (q 21)] (kW G q zp ze zf zg zn aG aW aR aN aF lC lS lP lX ++ (oW G q ztc aTs aTn zoc aOs aOn aTp zln zpl zfa aSz zit zip zic zig M ++ fr)) (some (.int z.1)) (kW G q zp ze zf zg zn aG aW aR aN aF lC lS lP lX ++ (oW G q ztc aTs aTn zoc aOs aOn aTp zln zpl zfa aSz z.2.1 z.2.2.1 z.2.2.2.1 z.2.2.2.2.1 z.2.2.2.2.2 ++ fr)) := by
  refine Ct.of (by decide +kernel) (Nat.le_of_ble_eq_true rfl) trivial ?_
  intro p e s m args below meth c Q A ls F hw hA hE hl
  have hx := F.x
  have hb := F.b
  unfold f_X4_image at h
  obtain ⟨H, hH⟩ : ∃ H, H = s.heap := ⟨_, rfl⟩
  obtain ⟨locs, hlo⟩ : ∃ locs : List Loc, locs = [] := ⟨_, rfl⟩
  rw [← hH, ← hlo] at hw ⊢
  have hl : lv_has ls 2 [(0, .ref (q 21))] := hl
  refine lv_aload_n hx hb dX4_image_0 rfl (lv_at hl 0 rfl) ?_
  refine lv_iconst (v := 1) hx hb dX4_image_1 (by decide) ?_
  refine pf_4_192 (by decide) F hw dX4_image_2 (fun H locs hw => ?_)
  refine lv_aload_n hx hb dX4_image_5 rfl (lv_at hl 0 rfl) ?_
  refine lv_aload_n hx hb dX4_image_6 rfl (lv_at hl 0 rfl) ?_
  refine gf_4_14 F hw dX4_image_7 ?_
  refine gf_4_64 F hw dX4_image_10 ?_
  refine pf_4_196 F hw dX4_image_13 (fun H locs hw => ?_)
  refine lv_aload_n hx hb dX4_image_16 rfl (lv_at hl 0 rfl) ?_
  refine lv_aload_n hx hb dX4_image_17 rfl (lv_at hl 0 rfl) ?_
  refine gf_4_14 F hw dX4_image_18 ?_
  refine gf_4_75 F hw dX4_image_21 ?_
  refine pf_4_199 F hw dX4_image_24 (fun H locs hw => ?_)
  refine lv_aload_n hx hb dX4_image_27 rfl (lv_at hl 0 rfl) ?_
  refine lv_aload_n hx hb dX4_image_28 rfl (lv_at hl 0 rfl) ?_
  refine gf_4_14 F hw dX4_image_29 ?_
  refine gf_4_81 F hw dX4_image_32 ?_
  refine pf_4_202 F hw dX4_image_35 (fun H locs hw => ?_)
  refine lv_iconst (v := 0) hx hb dX4_image_38 (by decide) ?_
  refine lv_istore_n (lv' := [(1, .int 0), (0, .ref (q 21))]) hx hb dX4_image_39 rfl hl (by decide) rfl (fun ls hl => ?_)
  exact w_X4_image_L40 F hA  FU _ _ _ _ _ _ z h hE H locs ls hw (lv_sub hl [1, 0] rfl)
end
theorem dX4_undo_0 : decode cX4_undo 0 = .ok (.aload_n 0, 1) := by decide +kernel
theorem dX4_undo_1 : decode cX4_undo 1 = .ok (.getfield 192, 3) := by decide +kernel
theorem dX4_undo_4 : decode cX4_undo 4 = .ok (.ifCond .ne 6, 3) := by decide +kernel
theorem dX4_undo_7 : decode cX4_undo 7 = .ok (.bipush (-3), 2) := by decide +kernel
theorem dX4_undo_9 : decode cX4_undo 9 = .ok (.ireturn, 1) := by decide +kernel
theorem dX4_undo_10 : decode cX4_undo 10 = .ok (.aload_n 0, 1) := by decide +kernel
theorem dX4_undo_11 : decode cX4_undo 11 = .ok (.getfield 14, 3) := by decide +kernel
theorem dX4_undo_14 : decode cX4_undo 14 = .ok (.aload_n 0, 1) := by decide +kernel
theorem dX4_undo_15 : decode cX4_undo 15 = .ok (.getfield 196, 3) := by decide +kernel
theorem dX4_undo_18 : decode cX4_undo 18 = .ok (.aload_n 0, 1) := by decide +kernel
theorem dX4_undo_19 : decode cX4_undo 19 = .ok (.getfield 199, 3) := by decide +kernel
theorem dX4_undo_22 : decode cX4_undo 22 = .ok (.invokevirtual 68, 3) := by decide +kernel
theorem dX4_undo_25 : decode cX4_undo 25 = .ok (.aload_n 0, 1) := by decide +kernel
theorem dX4_undo_26 : decode cX4_undo 26 = .ok (.getfield 14, 3) := by decide +kernel
theorem dX4_undo_29 : decode cX4_undo 29 = .ok (.aload_n 0, 1) := by decide +kernel
theorem dX4_undo_30 : decode cX4_undo 30 = .ok (.getfield 202, 3) := by decide +kernel
theorem dX4_undo_33 : decode cX4_undo 33 = .ok (.invokevirtual 93, 3) := by decide +kernel
theorem dX4_undo_36 : decode cX4_undo 36 = .ok (.iconst 0, 1) := by decide +kernel
theorem dX4_undo_37 : decode cX4_undo 37 = .ok (.istore_n 1, 1) := by decide +kernel
theorem dX4_undo_38 : decode cX4_undo 38 = .ok (.iload_n 1, 1) := by decide +kernel
theorem dX4_undo_39 : decode cX4_undo 39 = .ok (.iconst 4, 1) := by decide +kernel
theorem dX4_undo_40 : decode cX4_undo 40 = .ok (.if_icmp .ge 24, 3) := by decide +kernel
theorem dX4_undo_43 : decode cX4_undo 43 = .ok (.aload_n 0, 1) := by decide +kernel
theorem dX4_undo_44 : decode cX4_undo 44 = .ok (.getfield 57, 3) := by decide +kernel
theorem dX4_undo_47 : decode cX4_undo 47 = .ok (.iload_n 1, 1) := by decide +kernel
theorem dX4_undo_48 : decode cX4_undo 48 = .ok (.aaload, 1) := by decide +kernel
theorem dX4_undo_49 : decode cX4_undo 49 = .ok (.aload_n 0, 1) := by decide +kernel
theorem dX4_undo_50 : decode cX4_undo 50 = .ok (.getfield 47, 3) := by decide +kernel
theorem dX4_undo_53 : decode cX4_undo 53 = .ok (.iload_n 1, 1) := by decide +kernel
theorem dX4_undo_54 : decode cX4_undo 54 = .ok (.aaload, 1) := by decide +kernel
theorem dX4_undo_55 : decode cX4_undo 55 = .ok (.invokestatic 188, 3) := by decide +kernel
theorem dX4_undo_58 : decode cX4_undo 58 = .ok (.iinc 1 1, 3) := by decide +kernel
theorem dX4_undo_61 : decode cX4_undo 61 = .ok (.goto (-23), 3) := by decide +kernel
theorem dX4_undo_64 : decode cX4_undo 64 = .ok (.aload_n 0, 1) := by decide +kernel
theorem dX4_undo_65 : decode cX4_undo 65 = .ok (.getfield 14, 3) := by decide +kernel
theorem dX4_undo_68 : decode cX4_undo 68 = .ok (.getfield 64, 3) := by decide +kernel
theorem dX4_undo_71 : decode cX4_undo 71 = .ok (.ireturn, 1) := by decide +kernel
section
variable {p : Program} {l : Launch} {e : Env} {s : State} {m : MethodId} {args : Array Value} {below : List Frame} {meth : Method} {c : Code} {Q : State → Prop} {G : GG} {A : Nat → Prop} {q : Nat → Nat} {fr : va_W}
def f_X4_undo_L38 (zit : Int32) (zip : Int32) (zic : Int32) (zig : Int32) : Nat → Int32 → Int32 → Int32 → Int32 → Int32 → (Nat → Int32) → (Nat → Int32) → (Nat → Int32) → (Nat → Int32) → (Nat → Int32) → (Nat → Int64) → (Nat → Int64) → (Nat → Int64) → (Nat → Int64) → (Nat → Nat → Int64) → Int32 → Option (Int32 × Int32 × Int32 × Int32 × Int32 × Int32 × (Nat → Int32) × (Nat → Int32) × (Nat → Int32) × (Nat → Int32) × (Nat → Int32) × (Nat → Int64) × (Nat → Int64) × (Nat → Int64) × (Nat → Int64) × (Nat → Nat → Int64))
  | 0, _, _, _, _, _, _, _, _, _, _, _, _, _, _, _, _ => none
  | fu + 1, zp, ze, zf, zg, zn, aG, aW, aR, aN, aF, lC, lS, lP, lX, M, v1 =>
    if 4 ≤ v1 then
    some (zp, zp, ze, zf, zg, zn, aG, aW, aR, aN, aF, lC, lS, lP, lX, M)
    else
    if inb v1 4 then
    if inb v1 4 then
    (f_X4_copyRow M (7 + v1.toNatClampNeg) (0 + v1.toNatClampNeg)).bind fun z4 =>
    f_X4_undo_L38 zit zip zic zig fu zp ze zf zg zn aG aW aR aN aF lC lS lP lX z4 (v1 + 1)
    else none
    else none
set_option maxHeartbeats 4000000 in
set_option maxRecDepth 100000 in
theorem w_X4_undo_L38  {ztc : Int32} {aTs : Nat → Int32} {aTn : Nat → Int32} {zoc : Int32} {aOs : Nat → Int32} {aOn : Nat → Int32} {aTp : Nat → Int32} {zln : Int32} {zpl : Int32} {zfa : Int32} {aSz : Nat → Int32} {zit : Int32} {zip : Int32} {zic : Int32} {zig : Int32}   (F : Fx p s m args meth c cX4_undo 2 RX4 (some .int)) (hA : ∀ q, s.heap.size ≤ q → A q)   : ∀ (fu : Nat) (zp : Int32) (ze : Int32) (zf : Int32) (zg : Int32) (zn : Int32) (aG : Nat → Int32) (aW : Nat → Int32) (aR : Nat → Int32) (aN : Nat → Int32) (aF : Nat → Int32) (lC : Nat → Int64) (lS : Nat → Int64) (lP : Nat → Int64) (lX : Nat → Int64) (M : Nat → Nat → Int64) (v1 : Int32) (z : Int32 × Int32 × Int32 × Int32 × Int32 × Int32 × (Nat → Int32) × (Nat → Int32) × (Nat → Int32) × (Nat → Int32) × (Nat → Int32) × (Nat → Int64) × (Nat → Int64) × (Nat → Int64) × (Nat → Int64) × (Nat → Nat → Int64)), f_X4_undo_L38 zit zip zic zig fu zp ze zf zg zn aG aW aR aN aF lC lS lP lX M v1 = some z → Ends p l e (rmOf 5 116) s m args below meth c Q cX4_undo G A (some .int) (some (.int z.1)) (kW G q z.2.1 z.2.2.1 z.2.2.2.1 z.2.2.2.2.1 z.2.2.2.2.2.1 z.2.2.2.2.2.2.1 z.2.2.2.2.2.2.2.1 z.2.2.2.2.2.2.2.2.1 z.2.2.2.2.2.2.2.2.2.1 z.2.2.2.2.2.2.2.2.2.2.1 z.2.2.2.2.2.2.2.2.2.2.2.1 z.2.2.2.2.2.2.2.2.2.2.2.2.1 z.2.2.2.2.2.2.2.2.2.2.2.2.2.1 z.2.2.2.2.2.2.2.2.2.2.2.2.2.2.1 ++ (oW G q ztc aTs aTn zoc aOs aOn aTp zln zpl zfa aSz zit zip zic zig z.2.2.2.2.2.2.2.2.2.2.2.2.2.2.2 ++ fr)) → ∀ (H : Heap) (locs : List Loc) (ls : Array Slot), Wd G s A (kW G q zp ze zf zg zn aG aW aR aN aF lC lS lP lX ++ (oW G q ztc aTs aTn zoc aOs aOn aTp zln zpl zfa aSz zit zip zic zig M ++ fr)) H locs → lv_has ls 2 [(0, .ref (q 21)), (1, .int v1)] → W p l e (rmOf 5 116) s m args below meth c H locs 0 0 Q (F0 m 38 ls []) := by
  have hx := F.x
  have hb := F.b
  intro fu
  induction fu with
  | zero =>
    intro zp ze zf zg zn aG aW aR aN aF lC lS lP lX M v1 z h
    cases (h : none = some z)
  | succ fu ih =>
    intro zp ze zf zg zn aG aW aR aN aF lC lS lP lX M v1 z h hE H locs ls hw hl
    rw [f_X4_undo_L38] at h
    refine lv_iload_n hx hb dX4_undo_38 rfl (lv_at hl 1 rfl) ?_
    refine lv_iconst (v := 4) hx hb dX4_undo_39 (by decide) ?_
    refine lv_icmp_ge (tgt := 64) hx hb dX4_undo_40 (by decide) (fun c1 => ?_) (fun c1 => ?_)
    · replace h := stT c1 h
      refine lv_aload_n hx hb dX4_undo_64 rfl (lv_at hl 0 rfl) ?_
      refine gf_4_14 F hw dX4_undo_65 ?_
      refine gf_4_64 F hw dX4_undo_68 ?_
      obtain rfl := Option.some.inj h
      exact hE H locs _ ls hw dX4_undo_71
    · replace h := stF c1 h
      refine lv_aload_n hx hb dX4_undo_43 rfl (lv_at hl 0 rfl) ?_
      refine gf_4_57 F hw dX4_undo_44 ?_
      refine lv_iload_n hx hb dX4_undo_47 rfl (lv_at hl 1 rfl) ?_
      obtain ⟨g2, h⟩ := stG h
      refine aq_c25 F hw g2 dX4_undo_48 ?_
      refine lv_aload_n hx hb dX4_undo_49 rfl (lv_at hl 0 rfl) ?_
      refine gf_4_47 F hw dX4_undo_50 ?_
      refine lv_iload_n hx hb dX4_undo_53 rfl (lv_at hl 1 rfl) ?_
      obtain ⟨g3, h⟩ := stG h
      refine aq_c22 F hw g3 dX4_undo_54 ?_
      obtain ⟨z4, hz4, h⟩ := stB h
      refine ctS (av := [.ref (q (26 + (7 + v1.toNatClampNeg))), .ref (q (26 + (0 + v1.toNatClampNeg)))]) (st0 := ([] : List Value)) (st1 := ([] : List Value)) F hw hA (k_X4_copyRow (Nat.lt_of_lt_of_le (Nat.add_lt_add_left (inb_lt g2) 7) (by decide)) (Nat.lt_of_lt_of_le (Nat.add_lt_add_left (inb_lt g3) 0) (by decide)) hz4) kl_4_188 kd_X4_copyRow rfl ⟨by decide, by decide⟩ hl.1 rfl (Nat.le_of_ble_eq_true rfl) dX4_undo_55 rfl (fun H locs hw => ?_)
      refine lv_iinc (v := (v1 + 1)) (lv' := [(1, .int (v1 + 1)), (0, .ref (q 21))]) hx hb dX4_undo_58 hl (k := 1) rfl rfl (by decide) rfl (fun ls hl => ?_)
      refine lv_goto (tgt := 38) hx hb dX4_undo_61 (by decide) ?_
      exact ih _ _ _ _ _ _ _ _ _ _ _ _ _ _ _ _ z h hE H locs ls hw (lv_sub hl [1, 0] rfl)
def f_X4_undo (zp : Int32) (ze : Int32) (zf : Int32) (zg : Int32) (zn : Int32) (aG : Nat → Int32) (aW : Nat → Int32) (aR : Nat → Int32) (aN : Nat → Int32) (aF : Nat → Int32) (lC : Nat → Int64) (lS : Nat → Int64) (lP : Nat → Int64) (lX : Nat → Int64) (zit : Int32) (zip : Int32) (zic : Int32) (zig : Int32) (M : Nat → Nat → Int64) : Option (Int32 × Int32 × Int32 × Int32 × Int32 × Int32 × (Nat → Int32) × (Nat → Int32) × (Nat → Int32) × (Nat → Int32) × (Nat → Int32) × (Nat → Int64) × (Nat → Int64) × (Nat → Int64) × (Nat → Int64) × (Nat → Nat → Int64)) :=
  if zit = 0 then
  some ((-3), zp, ze, zf, zg, zn, aG, aW, aR, aN, aF, lC, lS, lP, lX, M)
  else
  (f_X0_settle zp ze zf zg zn aG aW aR aN aF lC lS lP lX zip zic).bind fun z2 =>
  (f_X0_takeGenerator z2.1 z2.2.1 z2.2.2.1 z2.2.2.2.1 z2.2.2.2.2.2.2.1 z2.2.2.2.2.2.2.2.2.1 z2.2.2.2.2.2.2.2.2.2.1 zig).bind fun z3 =>
  f_X4_undo_L38 zit zip zic zig FU z2.1 z2.2.1 z2.2.2.1 z3.1 z2.2.2.2.2.1 z2.2.2.2.2.2.1 z3.2.1 z2.2.2.2.2.2.2.2.1 z3.2.2.1 z3.2.2.2 z2.2.2.2.2.2.2.2.2.2.2.1 z2.2.2.2.2.2.2.2.2.2.2.2.1 z2.2.2.2.2.2.2.2.2.2.2.2.2.1 z2.2.2.2.2.2.2.2.2.2.2.2.2.2 M 0
set_option maxHeartbeats 4000000 in
set_option maxRecDepth 100000 in
theorem k_X4_undo {l : Launch} {G : GG} {q : Nat → Nat} {fr : va_W}  {zp : Int32} {ze : Int32} {zf : Int32} {zg : Int32} {zn : Int32} {aG : Nat → Int32} {aW : Nat → Int32} {aR : Nat → Int32} {aN : Nat → Int32} {aF : Nat → Int32} {lC : Nat → Int64} {lS : Nat → Int64} {lP : Nat → Int64} {lX : Nat → Int64} {ztc : Int32} {aTs : Nat → Int32} {aTn : Nat → Int32} {zoc : Int32} {aOs : Nat → Int32} {aOn : Nat → Int32} {aTp : Nat → Int32} {zln : Int32} {zpl : Int32} {zfa : Int32} {aSz : Nat → Int32} {zit : Int32} {zip : Int32} {zic : Int32} {zig : Int32} {M : Nat → Nat → Int64}  {z : Int32 × Int32 × Int32 × Int32 × Int32 × Int32 × (Nat → Int32) × (Nat → Int32) × (Nat → Int32) × (Nat → Int32) × (Nat → Int32) × (Nat → Int64) × (Nat → Int64) × (Nat → Int64) × (Nat → Int64) × (Nat → Nat → Int64)}  (h : f_X4_undo zp ze zf zg zn aG aW aR aN aF lC lS lP lX zit zip zic zig M = some z) : Ct l G yX4_undo cX4_undo 2 (some .int) 5 116 [.ref (q 21)] (kW G q zp ze zf zg zn aG aW aR aN aF lC lS lP lX ++ (oW G q ztc aTs aTn zoc aOs aOn aTp zln zpl zfa aSz zit zip zic zig M ++ fr)) (some (.int z.1)) (kW G q z.2.1 z.2.2.1 z.2.2.2.1 z.2.2.2.2.1 z.2.2.2.2.2.1 z.2.2.2.2.2.2.1 z.2.2.2.2.2.2.2.1 z.2.2.2.2.2.2.2.2.1 z.2.2.2.2.2.2.2.2.2.1 z.2.2.2.2.2.2.2.2.2.2.1 z.2.2.2.2.2.2.2.2.2.2.2.1 z.2.2.2.2.2.2.2.2.2.2.2.2.1 z.2.2.2.2.2.2.2.2.2.2.2.2.2.1 z.2.2.2.2.2.2.2.2.2.2.2.2.2.2.1 ++ (oW G q ztc aTs aTn zoc aOs aOn aTp zln zpl zfa aSz zit zip zic zig z.2.2.2.2.2.2.2.2.2.2.2.2.2.2.2 ++ fr)) := by
  refine Ct.of (by decide +kernel) (Nat.le_of_ble_eq_true rfl) trivial ?_
  intro p e s m args below meth c Q A ls F hw hA hE hl
  have hx := F.x
  have hb := F.b
  unfold f_X4_undo at h
  obtain ⟨H, hH⟩ : ∃ H, H = s.heap := ⟨_, rfl⟩
  obtain ⟨locs, hlo⟩ : ∃ locs : List Loc, locs = [] := ⟨_, rfl⟩
  rw [← hH, ← hlo] at hw ⊢
  have hl : lv_has ls 2 [(0, .ref (q 21))] := hl
  refine lv_aload_n hx hb dX4_undo_0 rfl (lv_at hl 0 rfl) ?_
  refine gf_4_192 F hw dX4_undo_1 ?_
  refine lv_if_ne (tgt := 10) hx hb dX4_undo_4 (by decide) (fun c1 => ?_) (fun c1 => ?_)
  · replace h := stF c1 h
    refine lv_aload_n hx hb dX4_undo_10 rfl (lv_at hl 0 rfl) ?_
    refine gf_4_14 F hw dX4_undo_11 ?_
    refine lv_aload_n hx hb dX4_undo_14 rfl (lv_at hl 0 rfl) ?_
    refine gf_4_196 F hw dX4_undo_15 ?_
    refine lv_aload_n hx hb dX4_undo_18 rfl (lv_at hl 0 rfl) ?_
    refine gf_4_199 F hw dX4_undo_19 ?_
    obtain ⟨z2, hz2, h⟩ := stB h
    refine ctV (av := [.int zip, .int zic]) (st0 := ([] : List Value)) (st1 := ([] : List Value)) F hw hA (k_X0_settle hz2) kl_4_68 kd_X0_settle rfl ⟨by decide, by decide⟩ 0 rfl rfl hl.1 rfl (Nat.le_of_ble_eq_true rfl) dX4_undo_22 rfl (fun H locs hw => ?_)
    refine lv_aload_n hx hb dX4_undo_25 rfl (lv_at hl 0 rfl) ?_
    refine gf_4_14 F hw dX4_undo_26 ?_
    refine lv_aload_n hx hb dX4_undo_29 rfl (lv_at hl 0 rfl) ?_
    refine gf_4_202 F hw dX4_undo_30 ?_
    obtain ⟨z3, hz3, h⟩ := stB h
    refine ctV (av := [.int zig]) (st0 := ([] : List Value)) (st1 := ([] : List Value)) F hw hA (k_X0_takeGenerator hz3) kl_4_93 kd_X0_takeGenerator rfl ⟨by decide, by decide⟩ 0 rfl rfl hl.1 rfl (Nat.le_of_ble_eq_true rfl) dX4_undo_33 rfl (fun H locs hw => ?_)
    refine lv_iconst (v := 0) hx hb dX4_undo_36 (by decide) ?_
    refine lv_istore_n (lv' := [(1, .int 0), (0, .ref (q 21))]) hx hb dX4_undo_37 rfl hl (by decide) rfl (fun ls hl => ?_)
    exact w_X4_undo_L38 F hA  FU _ _ _ _ _ _ _ _ _ _ _ _ _ _ _ _ z h hE H locs ls hw (lv_sub hl [1, 0] rfl)
  · replace h := stT c1 h
    refine lv_bipush (v := -3) hx hb dX4_undo_7 (by decide) ?_
    obtain rfl := Option.some.inj h
    exact hE H locs _ ls hw dX4_undo_9
end
theorem dX4_listsThere_0 : decode cX4_listsThere 0 = .ok (.iconst 0, 1) := by decide +kernel
theorem dX4_listsThere_1 : decode cX4_listsThere 1 = .ok (.istore_n 1, 1) := by decide +kernel
theorem dX4_listsThere_2 : decode cX4_listsThere 2 = .ok (.iconst 0, 1) := by decide +kernel
theorem dX4_listsThere_3 : decode cX4_listsThere 3 = .ok (.istore_n 2, 1) := by decide +kernel
theorem dX4_listsThere_4 : decode cX4_listsThere 4 = .ok (.iload_n 2, 1) := by decide +kernel
theorem dX4_listsThere_5 : decode cX4_listsThere 5 = .ok (.iconst 3, 1) := by decide +kernel
theorem dX4_listsThere_6 : decode cX4_listsThere 6 = .ok (.if_icmp .ge 21, 3) := by decide +kernel
theorem dX4_listsThere_9 : decode cX4_listsThere 9 = .ok (.aload_n 0, 1) := by decide +kernel
theorem dX4_listsThere_10 : decode cX4_listsThere 10 = .ok (.getfield 53, 3) := by decide +kernel
theorem dX4_listsThere_13 : decode cX4_listsThere 13 = .ok (.iload_n 2, 1) := by decide +kernel
theorem dX4_listsThere_14 : decode cX4_listsThere 14 = .ok (.iaload, 1) := by decide +kernel
theorem dX4_listsThere_15 : decode cX4_listsThere 15 = .ok (.ifCond .lt 6, 3) := by decide +kernel
theorem dX4_listsThere_18 : decode cX4_listsThere 18 = .ok (.iinc 1 1, 3) := by decide +kernel
theorem dX4_listsThere_21 : decode cX4_listsThere 21 = .ok (.iinc 2 1, 3) := by decide +kernel
theorem dX4_listsThere_24 : decode cX4_listsThere 24 = .ok (.goto (-20), 3) := by decide +kernel
theorem dX4_listsThere_27 : decode cX4_listsThere 27 = .ok (.iload_n 1, 1) := by decide +kernel
theorem dX4_listsThere_28 : decode cX4_listsThere 28 = .ok (.ireturn, 1) := by decide +kernel
section
variable {p : Program} {l : Launch} {e : Env} {s : State} {m : MethodId} {args : Array Value} {below : List Frame} {meth : Method} {c : Code} {Q : State → Prop} {G : GG} {A : Nat → Prop} {q : Nat → Nat} {fr : va_W}
def f_X4_listsThere_L4 (aSz : Nat → Int32) : Nat → Int32 → Int32 → Option (Int32)
  | 0, _, _ => none
  | fu + 1, v1, v2 =>
    if 3 ≤ v2 then
    some v1
    else
    if inb v2 3 then
    if (aSz v2.toNatClampNeg) < 0 then
    f_X4_listsThere_L4 aSz fu v1 (v2 + 1)
    else
    f_X4_listsThere_L4 aSz fu (v1 + 1) (v2 + 1)
    else none
set_option maxHeartbeats 4000000 in
set_option maxRecDepth 100000 in
theorem w_X4_listsThere_L4  {zp : Int32} {ze : Int32} {zf : Int32} {zg : Int32} {zn : Int32} {aG : Nat → Int32} {aW : Nat → Int32} {aR : Nat → Int32} {aN : Nat → Int32} {aF : Nat → Int32} {lC : Nat → Int64} {lS : Nat → Int64} {lP : Nat → Int64} {lX : Nat → Int64} {ztc : Int32} {aTs : Nat → Int32} {aTn : Nat → Int32} {zoc : Int32} {aOs : Nat → Int32} {aOn : Nat → Int32} {aTp : Nat → Int32} {zln : Int32} {zpl : Int32} {zfa : Int32} {aSz : Nat → Int32} {zit : Int32} {zip : Int32} {zic : Int32} {zig : Int32} {M : Nat → Nat → Int64}   (F : Fx p s m args meth c cX4_listsThere 3 RX4 (some .int)) (hA : ∀ q, s.heap.size ≤ q → A q)   : ∀ (fu : Nat) (v1 : Int32) (v2 : Int32) (z : Int32), f_X4_listsThere_L4 aSz fu v1 v2 = some z → Ends p l e (rmOf 0 0) s m args below meth c Q cX4_listsThere G A (some .int) (some (.int z)) (kW G q zp ze zf zg zn aG aW aR aN aF lC lS lP lX ++ (oW G q ztc aTs aTn zoc aOs aOn aTp zln zpl zfa aSz zit zip zic zig M ++ fr)) → ∀ (H : Heap) (locs : List Loc) (ls : Array Slot), Wd G s A (kW G q zp ze zf zg zn aG aW aR aN aF lC lS lP lX ++ (oW G q ztc aTs aTn zoc aOs aOn aTp zln zpl zfa aSz zit zip zic zig M ++ fr)) H locs → lv_has ls 3 [(0, .ref (q 21)), (1, .int v1), (2, .int v2)] → W p l e (rmOf 0 0) s m args below meth c H locs 0 0 Q (F0 m 4 ls []) := by
  have hx := F.x
  have hb := F.b
  intro fu
  induction fu with
  | zero =>
    intro v1 v2 z h
    cases (h : none = some z)
  | succ fu ih =>
    intro v1 v2 z h hE H locs ls hw hl
    rw [f_X4_listsThere_L4] at h
    refine lv_iload_n hx hb dX4_listsThere_4 rfl (lv_at hl 2 rfl) ?_
    refine lv_iconst (v := 3) hx hb dX4_listsThere_5 (by decide) ?_
    refine lv_icmp_ge (tgt := 27) hx hb dX4_listsThere_6 (by decide) (fun c1 => ?_) (fun c1 => ?_)
    · replace h := stT c1 h
      refine lv_iload_n hx hb dX4_listsThere_27 rfl (lv_at hl 1 rfl) ?_
      obtain rfl := Option.some.inj h
      exact hE H locs _ ls hw dX4_listsThere_28
    · replace h := stF c1 h
      refine lv_aload_n hx hb dX4_listsThere_9 rfl (lv_at hl 0 rfl) ?_
      refine gf_4_53 F hw dX4_listsThere_10 ?_
      refine lv_iload_n hx hb dX4_listsThere_13 rfl (lv_at hl 2 rfl) ?_
      obtain ⟨g2, h⟩ := stG h
      refine al_c24 F hw g2 dX4_listsThere_14 ?_
      refine lv_if_lt (tgt := 21) hx hb dX4_listsThere_15 (by decide) (fun c3 => ?_) (fun c3 => ?_)
      · replace h := stT c3 h
        refine lv_iinc (v := (v2 + 1)) (lv' := [(2, .int (v2 + 1)), (0, .ref (q 21)), (1, .int v1)]) hx hb dX4_listsThere_21 hl (k := 2) rfl rfl (by decide) rfl (fun ls hl => ?_)
        refine lv_goto (tgt := 4) hx hb dX4_listsThere_24 (by decide) ?_
        exact ih _ _ z h hE H locs ls hw (lv_sub hl [1, 2, 0] rfl)
      · replace h := stF c3 h
        refine lv_iinc (v := (v1 + 1)) (lv' := [(1, .int (v1 + 1)), (0, .ref (q 21)), (2, .int v2)]) hx hb dX4_listsThere_18 hl (k := 1) rfl rfl (by decide) rfl (fun ls hl => ?_)
        refine lv_iinc (v := (v2 + 1)) (lv' := [(2, .int (v2 + 1)), (1, .int (v1 + 1)), (0, .ref (q 21))]) hx hb dX4_listsThere_21 hl (k := 2) rfl rfl (by decide) rfl (fun ls hl => ?_)
        refine lv_goto (tgt := 4) hx hb dX4_listsThere_24 (by decide) ?_
        exact ih _ _ z h hE H locs ls hw (lv_sub hl [2, 1, 0] rfl)
def f_X4_listsThere (aSz : Nat → Int32) : Option (Int32) :=
  f_X4_listsThere_L4 aSz FU 0 0
set_option maxHeartbeats 4000000 in
set_option maxRecDepth 100000 in
theorem k_X4_listsThere {l : Launch} {G : GG} {q : Nat → Nat} {fr : va_W}  {zp : Int32} {ze : Int32} {zf : Int32} {zg : Int32} {zn : Int32} {aG : Nat → Int32} {aW : Nat → Int32} {aR : Nat → Int32} {aN : Nat → Int32} {aF : Nat → Int32} {lC : Nat → Int64} {lS : Nat → Int64} {lP : Nat → Int64} {lX : Nat → Int64} {ztc : Int32} {aTs : Nat → Int32} {aTn : Nat → Int32} {zoc : Int32} {aOs : Nat → Int32} {aOn : Nat → Int32} {aTp : Nat → Int32} {zln : Int32} {zpl : Int32} {zfa : Int32} {aSz : Nat → Int32} {zit : Int32} {zip : Int32} {zic : Int32} {zig : Int32} {M : Nat → Nat → Int64}  {z : Int32}  (h : f_X4_listsThere aSz = some z) : Ct l G yX4_listsThere cX4_listsThere 3 (some .int) 0 0 [.ref (q 21)] (kW G q zp ze zf zg zn aG aW aR aN aF lC lS lP lX ++ (oW G q ztc aTs aTn zoc aOs aOn aTp zln zpl zfa aSz zit zip zic zig M ++ fr)) (some (.int z)) (kW G q zp ze zf zg zn aG aW aR aN aF lC lS lP lX ++ (oW G q ztc aTs aTn zoc aOs aOn aTp zln zpl zfa aSz zit zip zic zig M ++ fr)) := by
  refine Ct.of (by decide +kernel) (Nat.le_of_ble_eq_true rfl) trivial ?_
  intro p e s m args below meth c Q A ls F hw hA hE hl
  have hx := F.x
  have hb := F.b
  unfold f_X4_listsThere at h
  obtain ⟨H, hH⟩ : ∃ H, H = s.heap := ⟨_, rfl⟩
  obtain ⟨locs, hlo⟩ : ∃ locs : List Loc, locs = [] := ⟨_, rfl⟩
  rw [← hH, ← hlo] at hw ⊢
  have hl : lv_has ls 3 [(0, .ref (q 21))] := hl
  refine lv_iconst (v := 0) hx hb dX4_listsThere_0 (by decide) ?_
  refine lv_istore_n (lv' := [(1, .int 0), (0, .ref (q 21))]) hx hb dX4_listsThere_1 rfl hl (by decide) rfl (fun ls hl => ?_)
  refine lv_iconst (v := 0) hx hb dX4_listsThere_2 (by decide) ?_
  refine lv_istore_n (lv' := [(2, .int 0), (1, .int 0), (0, .ref (q 21))]) hx hb dX4_listsThere_3 rfl hl (by decide) rfl (fun ls hl => ?_)
  exact w_X4_listsThere_L4 F hA  FU _ _ z h hE H locs ls hw (lv_sub hl [2, 1, 0] rfl)
end
theorem dX4_isZero_0 : decode cX4_isZero 0 = .ok (.iconst 0, 1) := by decide +kernel
theorem dX4_isZero_1 : decode cX4_isZero 1 = .ok (.istore_n 2, 1) := by decide +kernel
theorem dX4_isZero_2 : decode cX4_isZero 2 = .ok (.iload_n 2, 1) := by decide +kernel
theorem dX4_isZero_3 : decode cX4_isZero 3 = .ok (.aload_n 0, 1) := by decide +kernel
theorem dX4_isZero_4 : decode cX4_isZero 4 = .ok (.getfield 14, 3) := by decide +kernel
theorem dX4_isZero_7 : decode cX4_isZero 7 = .ok (.getfield 75, 3) := by decide +kernel
theorem dX4_isZero_10 : decode cX4_isZero 10 = .ok (.if_icmp .ge 19, 3) := by decide +kernel
theorem dX4_isZero_13 : decode cX4_isZero 13 = .ok (.aload_n 1, 1) := by decide +kernel
theorem dX4_isZero_14 : decode cX4_isZero 14 = .ok (.iload_n 2, 1) := by decide +kernel
theorem dX4_isZero_15 : decode cX4_isZero 15 = .ok (.laload, 1) := by decide +kernel
theorem dX4_isZero_16 : decode cX4_isZero 16 = .ok (.lconst 0, 1) := by decide +kernel
theorem dX4_isZero_17 : decode cX4_isZero 17 = .ok (.lcmp, 1) := by decide +kernel
theorem dX4_isZero_18 : decode cX4_isZero 18 = .ok (.ifCond .eq 5, 3) := by decide +kernel
theorem dX4_isZero_21 : decode cX4_isZero 21 = .ok (.iconst 0, 1) := by decide +kernel
theorem dX4_isZero_22 : decode cX4_isZero 22 = .ok (.ireturn, 1) := by decide +kernel
theorem dX4_isZero_23 : decode cX4_isZero 23 = .ok (.iinc 2 1, 3) := by decide +kernel
theorem dX4_isZero_26 : decode cX4_isZero 26 = .ok (.goto (-24), 3) := by decide +kernel
theorem dX4_isZero_29 : decode cX4_isZero 29 = .ok (.iconst 1, 1) := by decide +kernel
theorem dX4_isZero_30 : decode cX4_isZero 30 = .ok (.ireturn, 1) := by decide +kernel
section
variable {p : Program} {l : Launch} {e : Env} {s : State} {m : MethodId} {args : Array Value} {below : List Frame} {meth : Method} {c : Code} {Q : State → Prop} {G : GG} {A : Nat → Prop} {q : Nat → Nat} {fr : va_W}
def f_X4_isZero_L2 (ze : Int32) (M : Nat → Nat → Int64) (r1 : Nat) : Nat → Int32 → Option (Int32)
  | 0, _ => none
  | fu + 1, v2 =>
    if ze ≤ v2 then
    some 1
    else
    if inb v2 (rl r1) then
    if (lg_cmp (M r1 v2.toNatClampNeg) 0) = 0 then
    f_X4_isZero_L2 ze M r1 fu (v2 + 1)
    else
    some 0
    else none
set_option maxHeartbeats 4000000 in
set_option maxRecDepth 100000 in
theorem w_X4_isZero_L2  {zp : Int32} {ze : Int32} {zf : Int32} {zg : Int32} {zn : Int32} {aG : Nat → Int32} {aW : Nat → Int32} {aR : Nat → Int32} {aN : Nat → Int32} {aF : Nat → Int32} {lC : Nat → Int64} {lS : Nat → Int64} {lP : Nat → Int64} {lX : Nat → Int64} {ztc : Int32} {aTs : Nat → Int32} {aTn : Nat → Int32} {zoc : Int32} {aOs : Nat → Int32} {aOn : Nat → Int32} {aTp : Nat → Int32} {zln : Int32} {zpl : Int32} {zfa : Int32} {aSz : Nat → Int32} {zit : Int32} {zip : Int32} {zic : Int32} {zig : Int32} {M : Nat → Nat → Int64} {r1 : Nat}  (F : Fx p s m args meth c cX4_isZero 3 RX4 (some .boolean)) (hA : ∀ q, s.heap.size ≤ q → A q) (hr1 : r1 < 32)  : ∀ (fu : Nat) (v2 : Int32) (z : Int32), f_X4_isZero_L2 ze M r1 fu v2 = some z → Ends p l e (rmOf 0 0) s m args below meth c Q cX4_isZero G A (some .boolean) (some (.int z)) (kW G q zp ze zf zg zn aG aW aR aN aF lC lS lP lX ++ (oW G q ztc aTs aTn zoc aOs aOn aTp zln zpl zfa aSz zit zip zic zig M ++ fr)) → ∀ (H : Heap) (locs : List Loc) (ls : Array Slot), Wd G s A (kW G q zp ze zf zg zn aG aW aR aN aF lC lS lP lX ++ (oW G q ztc aTs aTn zoc aOs aOn aTp zln zpl zfa aSz zit zip zic zig M ++ fr)) H locs → lv_has ls 3 [(0, .ref (q 21)), (1, .ref (q (26 + r1))), (2, .int v2)] → W p l e (rmOf 0 0) s m args below meth c H locs 0 0 Q (F0 m 2 ls []) := by
  have hx := F.x
  have hb := F.b
  intro fu
  induction fu with
  | zero =>
    intro v2 z h
    cases (h : none = some z)
  | succ fu ih =>
    intro v2 z h hE H locs ls hw hl
    rw [f_X4_isZero_L2] at h
    refine lv_iload_n hx hb dX4_isZero_2 rfl (lv_at hl 2 rfl) ?_
    refine lv_aload_n hx hb dX4_isZero_3 rfl (lv_at hl 0 rfl) ?_
    refine gf_4_14 F hw dX4_isZero_4 ?_
    refine gf_4_75 F hw dX4_isZero_7 ?_
    refine lv_icmp_ge (tgt := 29) hx hb dX4_isZero_10 (by decide) (fun c1 => ?_) (fun c1 => ?_)
    · replace h := stT c1 h
      refine lv_iconst (v := 1) hx hb dX4_isZero_29 (by decide) ?_
      obtain rfl := Option.some.inj h
      exact hE H locs _ ls hw (Or.inr rfl) dX4_isZero_30
    · replace h := stF c1 h
      refine lv_aload_n hx hb dX4_isZero_13 rfl (lv_at hl 1 rfl) ?_
      refine lv_iload_n hx hb dX4_isZero_14 rfl (lv_at hl 2 rfl) ?_
      obtain ⟨g2, h⟩ := stG h
      refine al_row F hw hr1 g2 dX4_isZero_15 ?_
      refine lv_lconst (v := 0) hx hb dX4_isZero_16 (by decide) ?_
      refine W.lcmp hx hb dX4_isZero_17 ?_
      refine lv_if_eq (tgt := 23) hx hb dX4_isZero_18 (by decide) (fun c3 => ?_) (fun c3 => ?_)
      · replace h := stT c3 h
        refine lv_iinc (v := (v2 + 1)) (lv' := [(2, .int (v2 + 1)), (0, .ref (q 21)), (1, .ref (q (26 + r1)))]) hx hb dX4_isZero_23 hl (k := 2) rfl rfl (by decide) rfl (fun ls hl => ?_)
        refine lv_goto (tgt := 2) hx hb dX4_isZero_26 (by decide) ?_
        exact ih _ z h hE H locs ls hw (lv_sub hl [1, 2, 0] rfl)
      · replace h := stF c3 h
        refine lv_iconst (v := 0) hx hb dX4_isZero_21 (by decide) ?_
        obtain rfl := Option.some.inj h
        exact hE H locs _ ls hw (Or.inl rfl) dX4_isZero_22
def f_X4_isZero (ze : Int32) (M : Nat → Nat → Int64) (r1 : Nat) : Option (Int32) :=
  f_X4_isZero_L2 ze M r1 FU 0
set_option maxHeartbeats 4000000 in
set_option maxRecDepth 100000 in
theorem k_X4_isZero {l : Launch} {G : GG} {q : Nat → Nat} {fr : va_W}  {zp : Int32} {ze : Int32} {zf : Int32} {zg : Int32} {zn : Int32} {aG : Nat → Int32} {aW : Nat → Int32} {aR : Nat → Int32} {aN : Nat → Int32} {aF : Nat → Int32} {lC : Nat → Int64} {lS : Nat → Int64} {lP : Nat → Int64} {lX : Nat → Int64} {ztc : Int32} {aTs : Nat → Int32} {aTn : Nat → Int32} {zoc : Int32} {aOs : Nat → Int32} {aOn : Nat → Int32} {aTp : Nat → Int32} {zln : Int32} {zpl : Int32} {zfa : Int32} {aSz : Nat → Int32} {zit : Int32} {zip : Int32} {zic : Int32} {zig : Int32} {M : Nat → Nat → Int64} {r1 : Nat} {z : Int32} (hr1 : r1 < 32) (h : f_X4_isZero ze M r1 = some z) : Ct l G yX4_isZero cX4_isZero 3 (some .boolean) 0 0 [.ref (q 21), .ref (q (26 + r1))] (kW G q zp ze zf zg zn aG aW aR aN aF lC lS lP lX ++ (oW G q ztc aTs aTn zoc aOs aOn aTp zln zpl zfa aSz zit zip zic zig M ++ fr)) (some (.int z)) (kW G q zp ze zf zg zn aG aW aR aN aF lC lS lP lX ++ (oW G q ztc aTs aTn zoc aOs aOn aTp zln zpl zfa aSz zit zip zic zig M ++ fr)) := by
  refine Ct.of (by decide +kernel) (Nat.le_of_ble_eq_true rfl) trivial ?_
  intro p e s m args below meth c Q A ls F hw hA hE hl
  have hx := F.x
  have hb := F.b
  unfold f_X4_isZero at h
  obtain ⟨H, hH⟩ : ∃ H, H = s.heap := ⟨_, rfl⟩
  obtain ⟨locs, hlo⟩ : ∃ locs : List Loc, locs = [] := ⟨_, rfl⟩
  rw [← hH, ← hlo] at hw ⊢
  have hl : lv_has ls 3 [(0, .ref (q 21)), (1, .ref (q (26 + r1)))] := hl
  refine lv_iconst (v := 0) hx hb dX4_isZero_0 (by decide) ?_
  refine lv_istore_n (lv' := [(2, .int 0), (0, .ref (q 21)), (1, .ref (q (26 + r1)))]) hx hb dX4_isZero_1 rfl hl (by decide) rfl (fun ls hl => ?_)
  exact w_X4_isZero_L2 F hA hr1 FU _ z h hE H locs ls hw (lv_sub hl [1, 2, 0] rfl)
end
theorem dX4_shelvesInUse_0 : decode cX4_shelvesInUse 0 = .ok (.iconst 0, 1) := by decide +kernel
theorem dX4_shelvesInUse_1 : decode cX4_shelvesInUse 1 = .ok (.istore_n 1, 1) := by decide +kernel
theorem dX4_shelvesInUse_2 : decode cX4_shelvesInUse 2 = .ok (.iconst 0, 1) := by decide +kernel
theorem dX4_shelvesInUse_3 : decode cX4_shelvesInUse 3 = .ok (.istore_n 2, 1) := by decide +kernel
theorem dX4_shelvesInUse_4 : decode cX4_shelvesInUse 4 = .ok (.iload_n 2, 1) := by decide +kernel
theorem dX4_shelvesInUse_5 : decode cX4_shelvesInUse 5 = .ok (.iconst 4, 1) := by decide +kernel
theorem dX4_shelvesInUse_6 : decode cX4_shelvesInUse 6 = .ok (.if_icmp .ge 25, 3) := by decide +kernel
theorem dX4_shelvesInUse_9 : decode cX4_shelvesInUse 9 = .ok (.aload_n 0, 1) := by decide +kernel
theorem dX4_shelvesInUse_10 : decode cX4_shelvesInUse 10 = .ok (.aload_n 0, 1) := by decide +kernel
theorem dX4_shelvesInUse_11 : decode cX4_shelvesInUse 11 = .ok (.getfield 47, 3) := by decide +kernel
theorem dX4_shelvesInUse_14 : decode cX4_shelvesInUse 14 = .ok (.iload_n 2, 1) := by decide +kernel
theorem dX4_shelvesInUse_15 : decode cX4_shelvesInUse 15 = .ok (.aaload, 1) := by decide +kernel
theorem dX4_shelvesInUse_16 : decode cX4_shelvesInUse 16 = .ok (.invokevirtual 212, 3) := by decide +kernel
theorem dX4_shelvesInUse_19 : decode cX4_shelvesInUse 19 = .ok (.ifCond .ne 6, 3) := by decide +kernel
theorem dX4_shelvesInUse_22 : decode cX4_shelvesInUse 22 = .ok (.iinc 1 1, 3) := by decide +kernel
theorem dX4_shelvesInUse_25 : decode cX4_shelvesInUse 25 = .ok (.iinc 2 1, 3) := by decide +kernel
theorem dX4_shelvesInUse_28 : decode cX4_shelvesInUse 28 = .ok (.goto (-24), 3) := by decide +kernel
theorem dX4_shelvesInUse_31 : decode cX4_shelvesInUse 31 = .ok (.iload_n 1, 1) := by decide +kernel
theorem dX4_shelvesInUse_32 : decode cX4_shelvesInUse 32 = .ok (.ireturn, 1) := by decide +kernel
section
variable {p : Program} {l : Launch} {e : Env} {s : State} {m : MethodId} {args : Array Value} {below : List Frame} {meth : Method} {c : Code} {Q : State → Prop} {G : GG} {A : Nat → Prop} {q : Nat → Nat} {fr : va_W}
def f_X4_shelvesInUse_L4 (ze : Int32) (M : Nat → Nat → Int64) : Nat → Int32 → Int32 → Option (Int32)
  | 0, _, _ => none
  | fu + 1, v1, v2 =>
    if 4 ≤ v2 then
    some v1
    else
    if inb v2 4 then
    (f_X4_isZero ze M (0 + v2.toNatClampNeg)).bind fun z3 =>
    if z3 = 0 then
    f_X4_shelvesInUse_L4 ze M fu (v1 + 1) (v2 + 1)
    else
    f_X4_shelvesInUse_L4 ze M fu v1 (v2 + 1)
    else none
set_option maxHeartbeats 4000000 in
set_option maxRecDepth 100000 in
theorem w_X4_shelvesInUse_L4  {zp : Int32} {ze : Int32} {zf : Int32} {zg : Int32} {zn : Int32} {aG : Nat → Int32} {aW : Nat → Int32} {aR : Nat → Int32} {aN : Nat → Int32} {aF : Nat → Int32} {lC : Nat → Int64} {lS : Nat → Int64} {lP : Nat → Int64} {lX : Nat → Int64} {ztc : Int32} {aTs : Nat → Int32} {aTn : Nat → Int32} {zoc : Int32} {aOs : Nat → Int32} {aOn : Nat → Int32} {aTp : Nat → Int32} {zln : Int32} {zpl : Int32} {zfa : Int32} {aSz : Nat → Int32} {zit : Int32} {zip : Int32} {zic : Int32} {zig : Int32} {M : Nat → Nat → Int64}   (F : Fx p s m args meth c cX4_shelvesInUse 3 RX4 (some .int)) (hA : ∀ q, s.heap.size ≤ q → A q)   : ∀ (fu : Nat) (v1 : Int32) (v2 : Int32) (z : Int32), f_X4_shelvesInUse_L4 ze M fu v1 v2 = some z → Ends p l e (rmOf 1 22) s m args below meth c Q cX4_shelvesInUse G A (some .int) (some (.int z)) (kW G q zp ze zf zg zn aG aW aR aN aF lC lS lP lX ++ (oW G q ztc aTs aTn zoc aOs aOn aTp zln zpl zfa aSz zit zip zic zig M ++ fr)) → ∀ (H : Heap) (locs : List Loc) (ls : Array Slot), Wd G s A (kW G q zp ze zf zg zn aG aW aR aN aF lC lS lP lX ++ (oW G q ztc aTs aTn zoc aOs aOn aTp zln zpl zfa aSz zit zip zic zig M ++ fr)) H locs → lv_has ls 3 [(0, .ref (q 21)), (1, .int v1), (2, .int v2)] → W p l e (rmOf 1 22) s m args below meth c H locs 0 0 Q (F0 m 4 ls []) := by
  have hx := F.x
  have hb := F.b
  intro fu
  induction fu with
  | zero =>
    intro v1 v2 z h
    cases (h : none = some z)
  | succ fu ih =>
    intro v1 v2 z h hE H locs ls hw hl
    rw [f_X4_shelvesInUse_L4] at h
    refine lv_iload_n hx hb dX4_shelvesInUse_4 rfl (lv_at hl 2 rfl) ?_
    refine lv_iconst (v := 4) hx hb dX4_shelvesInUse_5 (by decide) ?_
    refine lv_icmp_ge (tgt := 31) hx hb dX4_shelvesInUse_6 (by decide) (fun c1 => ?_) (fun c1 => ?_)
    · replace h := stT c1 h
      refine lv_iload_n hx hb dX4_shelvesInUse_31 rfl (lv_at hl 1 rfl) ?_
      obtain rfl := Option.some.inj h
      exact hE H locs _ ls hw dX4_shelvesInUse_32
    · replace h := stF c1 h
      refine lv_aload_n hx hb dX4_shelvesInUse_9 rfl (lv_at hl 0 rfl) ?_
      refine lv_aload_n hx hb dX4_shelvesInUse_10 rfl (lv_at hl 0 rfl) ?_
      refine gf_4_47 F hw dX4_shelvesInUse_11 ?_
      refine lv_iload_n hx hb dX4_shelvesInUse_14 rfl (lv_at hl 2 rfl) ?_
      obtain ⟨g2, h⟩ := stG h
      refine aq_c22 F hw g2 dX4_shelvesInUse_15 ?_
      obtain ⟨z3, hz3, h⟩ := stB h
      refine ctV (av := [.ref (q (26 + (0 + v2.toNatClampNeg)))]) (st0 := ([] : List Value)) (st1 := ([.int z3] : List Value)) F hw hA (k_X4_isZero (Nat.lt_of_lt_of_le (Nat.add_lt_add_left (inb_lt g2) 0) (by decide)) hz3) kl_4_212 kd_X4_isZero rfl ⟨by decide, by decide⟩ 21 rfl rfl hl.1 rfl (Nat.le_of_ble_eq_true rfl) dX4_shelvesInUse_16 rfl (fun H locs hw => ?_)
      refine lv_if_ne (tgt := 25) hx hb dX4_shelvesInUse_19 (by decide) (fun c4 => ?_) (fun c4 => ?_)
      · replace h := stF c4 h
        refine lv_iinc (v := (v2 + 1)) (lv' := [(2, .int (v2 + 1)), (0, .ref (q 21)), (1, .int v1)]) hx hb dX4_shelvesInUse_25 hl (k := 2) rfl rfl (by decide) rfl (fun ls hl => ?_)
        refine lv_goto (tgt := 4) hx hb dX4_shelvesInUse_28 (by decide) ?_
        exact ih _ _ z h hE H locs ls hw (lv_sub hl [1, 2, 0] rfl)
      · replace h := stT c4 h
        refine lv_iinc (v := (v1 + 1)) (lv' := [(1, .int (v1 + 1)), (0, .ref (q 21)), (2, .int v2)]) hx hb dX4_shelvesInUse_22 hl (k := 1) rfl rfl (by decide) rfl (fun ls hl => ?_)
        refine lv_iinc (v := (v2 + 1)) (lv' := [(2, .int (v2 + 1)), (1, .int (v1 + 1)), (0, .ref (q 21))]) hx hb dX4_shelvesInUse_25 hl (k := 2) rfl rfl (by decide) rfl (fun ls hl => ?_)
        refine lv_goto (tgt := 4) hx hb dX4_shelvesInUse_28 (by decide) ?_
        exact ih _ _ z h hE H locs ls hw (lv_sub hl [2, 1, 0] rfl)
def f_X4_shelvesInUse (ze : Int32) (M : Nat → Nat → Int64) : Option (Int32) :=
  f_X4_shelvesInUse_L4 ze M FU 0 0
set_option maxHeartbeats 4000000 in
set_option maxRecDepth 100000 in
theorem k_X4_shelvesInUse {l : Launch} {G : GG} {q : Nat → Nat} {fr : va_W}  {zp : Int32} {ze : Int32} {zf : Int32} {zg : Int32} {zn : Int32} {aG : Nat → Int32} {aW : Nat → Int32} {aR : Nat → Int32} {aN : Nat → Int32} {aF : Nat → Int32} {lC : Nat → Int64} {lS : Nat → Int64} {lP : Nat → Int64} {lX : Nat → Int64} {ztc : Int32} {aTs : Nat → Int32} {aTn : Nat → Int32} {zoc : Int32} {aOs : Nat → Int32} {aOn : Nat → Int32} {aTp : Nat → Int32} {zln : Int32} {zpl : Int32} {zfa : Int32} {aSz : Nat → Int32} {zit : Int32} {zip : Int32} {zic : Int32} {zig : Int32} {M : Nat → Nat → Int64}  {z : Int32}  (h : f_X4_shelvesInUse ze M = some z) : Ct l G yX4_shelvesInUse cX4_shelvesInUse 3 (some .int) 1 22 [.ref (q 21)] (kW G q zp ze zf zg zn aG aW aR aN aF lC lS lP lX ++ (oW G q ztc aTs aTn zoc aOs aOn aTp zln zpl zfa aSz zit zip zic zig M ++ fr)) (some (.int z)) (kW G q zp ze zf zg zn aG aW aR aN aF lC lS lP lX ++ (oW G q ztc aTs aTn zoc aOs aOn aTp zln zpl zfa aSz zit zip zic zig M ++ fr)) := by
  refine Ct.of (by decide +kernel) (Nat.le_of_ble_eq_true rfl) trivial ?_
  intro p e s m args below meth c Q A ls F hw hA hE hl
  have hx := F.x
  have hb := F.b
  unfold f_X4_shelvesInUse at h
  obtain ⟨H, hH⟩ : ∃ H, H = s.heap := ⟨_, rfl⟩
  obtain ⟨locs, hlo⟩ : ∃ locs : List Loc, locs = [] := ⟨_, rfl⟩
  rw [← hH, ← hlo] at hw ⊢
  have hl : lv_has ls 3 [(0, .ref (q 21))] := hl
  refine lv_iconst (v := 0) hx hb dX4_shelvesInUse_0 (by decide) ?_
  refine lv_istore_n (lv' := [(1, .int 0), (0, .ref (q 21))]) hx hb dX4_shelvesInUse_1 rfl hl (by decide) rfl (fun ls hl => ?_)
  refine lv_iconst (v := 0) hx hb dX4_shelvesInUse_2 (by decide) ?_
  refine lv_istore_n (lv' := [(2, .int 0), (1, .int 0), (0, .ref (q 21))]) hx hb dX4_shelvesInUse_3 rfl hl (by decide) rfl (fun ls hl => ?_)
  exact w_X4_shelvesInUse_L4 F hA  FU _ _ z h hE H locs ls hw (lv_sub hl [2, 1, 0] rfl)
end
theorem dX4_count_0 : decode cX4_count 0 = .ok (.iload_n 1, 1) := by decide +kernel
theorem dX4_count_1 : decode cX4_count 1 = .ok (.tableswitch 57 0 3 #[31, 39, 47, 52], 31) := by decide +kernel
theorem dX4_count_32 : decode cX4_count 32 = .ok (.aload_n 0, 1) := by decide +kernel
theorem dX4_count_33 : decode cX4_count 33 = .ok (.getfield 41, 3) := by decide +kernel
theorem dX4_count_36 : decode cX4_count 36 = .ok (.getfield 175, 3) := by decide +kernel
theorem dX4_count_39 : decode cX4_count 39 = .ok (.ireturn, 1) := by decide +kernel
theorem dX4_count_40 : decode cX4_count 40 = .ok (.aload_n 0, 1) := by decide +kernel
theorem dX4_count_41 : decode cX4_count 41 = .ok (.getfield 23, 3) := by decide +kernel
theorem dX4_count_44 : decode cX4_count 44 = .ok (.getfield 166, 3) := by decide +kernel
theorem dX4_count_47 : decode cX4_count 47 = .ok (.ireturn, 1) := by decide +kernel
theorem dX4_count_48 : decode cX4_count 48 = .ok (.aload_n 0, 1) := by decide +kernel
theorem dX4_count_49 : decode cX4_count 49 = .ok (.invokevirtual 205, 3) := by decide +kernel
theorem dX4_count_52 : decode cX4_count 52 = .ok (.ireturn, 1) := by decide +kernel
theorem dX4_count_53 : decode cX4_count 53 = .ok (.aload_n 0, 1) := by decide +kernel
theorem dX4_count_54 : decode cX4_count 54 = .ok (.invokevirtual 209, 3) := by decide +kernel
theorem dX4_count_57 : decode cX4_count 57 = .ok (.ireturn, 1) := by decide +kernel
theorem dX4_count_58 : decode cX4_count 58 = .ok (.iconst (-1), 1) := by decide +kernel
theorem dX4_count_59 : decode cX4_count 59 = .ok (.ireturn, 1) := by decide +kernel
section
variable {p : Program} {l : Launch} {e : Env} {s : State} {m : MethodId} {args : Array Value} {below : List Frame} {meth : Method} {c : Code} {Q : State → Prop} {G : GG} {A : Nat → Prop} {q : Nat → Nat} {fr : va_W}
def f_X4_count (ze : Int32) (ztc : Int32) (zln : Int32) (aSz : Nat → Int32) (M : Nat → Nat → Int64) (v1 : Int32) : Option (Int32) :=
  if v1 = 0 then
  some zln
  else
  if v1 = 1 then
  some ztc
  else
  if v1 = 2 then
  (f_X4_listsThere aSz).bind fun z4 =>
  some z4
  else
  if v1 = 3 then
  (f_X4_shelvesInUse ze M).bind fun z6 =>
  some z6
  else
  some (-1)
set_option maxHeartbeats 4000000 in
set_option maxRecDepth 100000 in
theorem k_X4_count {l : Launch} {G : GG} {q : Nat → Nat} {fr : va_W}  {zp : Int32} {ze : Int32} {zf : Int32} {zg : Int32} {zn : Int32} {aG : Nat → Int32} {aW : Nat → Int32} {aR : Nat → Int32} {aN : Nat → Int32} {aF : Nat → Int32} {lC : Nat → Int64} {lS : Nat → Int64} {lP : Nat → Int64} {lX : Nat → Int64} {ztc : Int32} {aTs : Nat → Int32} {aTn : Nat → Int32} {zoc : Int32} {aOs : Nat → Int32} {aOn : Nat → Int32} {aTp : Nat → Int32} {zln : Int32} {zpl : Int32} {zfa : Int32} {aSz : Nat → Int32} {zit : Int32} {zip : Int32} {zic : Int32} {zig : Int32} {M : Nat → Nat → Int64} {v1 : Int32} {z : Int32}  (h : f_X4_count ze ztc zln aSz M v1 = some z) : Ct l G yX4_count cX4_count 2 (some .int) 2 44 [.ref (q 21), .int v1] (kW G q zp ze zf zg zn aG aW aR aN aF lC lS lP lX ++ (oW G q ztc aTs aTn zoc aOs aOn aTp zln zpl zfa aSz zit zip zic zig M ++ fr)) (some (.int z)) (kW G q zp ze zf zg zn aG aW aR aN aF lC lS lP lX ++ (oW G q ztc aTs aTn zoc aOs aOn aTp zln zpl zfa aSz zit zip zic zig M ++ fr)) := by
  refine Ct.of (by decide +kernel) (Nat.le_of_ble_eq_true rfl) trivial ?_
  intro p e s m args below meth c Q A ls F hw hA hE hl
  have hx := F.x
  have hb := F.b
  unfold f_X4_count at h
  obtain ⟨H, hH⟩ : ∃ H, H = s.heap := ⟨_, rfl⟩
  obtain ⟨locs, hlo⟩ : ∃ locs : List Loc, locs = [] := ⟨_, rfl⟩
  rw [← hH, ← hlo] at hw ⊢
  have hl : lv_has ls 2 [(0, .ref (q 21)), (1, .int v1)] := hl
  refine lv_iload_n hx hb dX4_count_0 rfl (lv_at hl 1 rfl) ?_
  by_cases c1 : v1 = 0
  · replace h := stT c1 h
    refine lv_tableIn (off := 31) (tgt := 32) hx hb dX4_count_1 (by rw [c1]; decide) (by rw [c1]; decide) (by rw [c1]; rfl) (by decide) ?_
    refine lv_aload_n hx hb dX4_count_32 rfl (lv_at hl 0 rfl) ?_
    refine gf_4_41 F hw dX4_count_33 ?_
    refine gf_4_175 F hw dX4_count_36 ?_
    obtain rfl := Option.some.inj h
    exact hE H locs _ ls hw dX4_count_39
  replace h := stF c1 h
  by_cases c2 : v1 = 1
  · replace h := stT c2 h
    refine lv_tableIn (off := 39) (tgt := 40) hx hb dX4_count_1 (by rw [c2]; decide) (by rw [c2]; decide) (by rw [c2]; rfl) (by decide) ?_
    refine lv_aload_n hx hb dX4_count_40 rfl (lv_at hl 0 rfl) ?_
    refine gf_4_23 F hw dX4_count_41 ?_
    refine gf_4_166 F hw dX4_count_44 ?_
    obtain rfl := Option.some.inj h
    exact hE H locs _ ls hw dX4_count_47
  replace h := stF c2 h
  by_cases c3 : v1 = 2
  · replace h := stT c3 h
    refine lv_tableIn (off := 47) (tgt := 48) hx hb dX4_count_1 (by rw [c3]; decide) (by rw [c3]; decide) (by rw [c3]; rfl) (by decide) ?_
    refine lv_aload_n hx hb dX4_count_48 rfl (lv_at hl 0 rfl) ?_
    obtain ⟨z4, hz4, h⟩ := stB h
    refine ctV (av := []) (st0 := ([] : List Value)) (st1 := ([.int z4] : List Value)) F hw hA (k_X4_listsThere hz4) kl_4_205 kd_X4_listsThere rfl ⟨by decide, by decide⟩ 21 rfl rfl hl.1 rfl (Nat.le_of_ble_eq_true rfl) dX4_count_49 rfl (fun H locs hw => ?_)
    obtain rfl := Option.some.inj h
    exact hE H locs _ ls hw dX4_count_52
  replace h := stF c3 h
  by_cases c5 : v1 = 3
  · replace h := stT c5 h
    refine lv_tableIn (off := 52) (tgt := 53) hx hb dX4_count_1 (by rw [c5]; decide) (by rw [c5]; decide) (by rw [c5]; rfl) (by decide) ?_
    refine lv_aload_n hx hb dX4_count_53 rfl (lv_at hl 0 rfl) ?_
    obtain ⟨z6, hz6, h⟩ := stB h
    refine ctV (av := []) (st0 := ([] : List Value)) (st1 := ([.int z6] : List Value)) F hw hA (k_X4_shelvesInUse hz6) kl_4_209 kd_X4_shelvesInUse rfl ⟨by decide, by decide⟩ 21 rfl rfl hl.1 rfl (Nat.le_of_ble_eq_true rfl) dX4_count_54 rfl (fun H locs hw => ?_)
    obtain rfl := Option.some.inj h
    exact hE H locs _ ls hw dX4_count_57
  replace h := stF c5 h
  refine lv_tableOut (tgt := 58) hx hb dX4_count_1 (tsw4 c1 c2 c3 c5) (by decide) ?_
  refine lv_iconst (v := -1) hx hb dX4_count_58 (by decide) ?_
  obtain rfl := Option.some.inj h
  exact hE H locs _ ls hw dX4_count_59
end
