/-! printed by wip/whole/mk.py: the functions that mirror the bytecode, and the contracts over them -/
theorem dX1_append_0 : decode cX1_append 0 = .ok (.aload_n 0, 1) := by decide +kernel
theorem dX1_append_1 : decode cX1_append 1 = .ok (.getfield 38, 3) := by decide +kernel
theorem dX1_append_4 : decode cX1_append 4 = .ok (.bipush 80, 2) := by decide +kernel
theorem dX1_append_6 : decode cX1_append 6 = .ok (.if_icmp .lt 4, 3) := by decide +kernel
theorem dX1_append_9 : decode cX1_append 9 = .ok (.return_, 1) := by decide +kernel
theorem dX1_append_10 : decode cX1_append 10 = .ok (.aload_n 0, 1) := by decide +kernel
theorem dX1_append_11 : decode cX1_append 11 = .ok (.getfield 9, 3) := by decide +kernel
theorem dX1_append_14 : decode cX1_append 14 = .ok (.aload_n 0, 1) := by decide +kernel
theorem dX1_append_15 : decode cX1_append 15 = .ok (.getfield 38, 3) := by decide +kernel
theorem dX1_append_18 : decode cX1_append 18 = .ok (.iload_n 1, 1) := by decide +kernel
theorem dX1_append_19 : decode cX1_append 19 = .ok (.i2b, 1) := by decide +kernel
theorem dX1_append_20 : decode cX1_append 20 = .ok (.bastore, 1) := by decide +kernel
theorem dX1_append_21 : decode cX1_append 21 = .ok (.aload_n 0, 1) := by decide +kernel
theorem dX1_append_22 : decode cX1_append 22 = .ok (.dup, 1) := by decide +kernel
theorem dX1_append_23 : decode cX1_append 23 = .ok (.getfield 38, 3) := by decide +kernel
theorem dX1_append_26 : decode cX1_append 26 = .ok (.iconst 1, 1) := by decide +kernel
theorem dX1_append_27 : decode cX1_append 27 = .ok (.iadd, 1) := by decide +kernel
theorem dX1_append_28 : decode cX1_append 28 = .ok (.putfield 38, 3) := by decide +kernel
theorem dX1_append_31 : decode cX1_append 31 = .ok (.return_, 1) := by decide +kernel
section
variable {p : Program} {l : Launch} {e : Env} {s : State} {m : MethodId} {args : Array Value} {below : List Frame} {meth : Method} {c : Code} {Q : State → Prop} {G : GG} {A : Nat → Prop} {q : Nat → Nat} {fr : va_W}
def f_X1_append (aTp : Nat → Int32) (zln : Int32) (v1 : Int32) : Option ((Nat → Int32) × Int32) :=
  if zln < 80 then
  if inb zln 80 then
  some ((upd aTp zln.toNatClampNeg (vp_nar .byte v1.toInt8.toInt32)), (zln + 1))
  else none
  else
  some (aTp, zln)
set_option maxHeartbeats 4000000 in
set_option maxRecDepth 100000 in
theorem k_X1_append {l : Launch} {G : GG} {q : Nat → Nat} {fr : va_W}  {zp : Int32} {ze : Int32} {zf : Int32} {zg : Int32} {zn : Int32} {aG : Nat → Int32} {aW : Nat → Int32} {aR : Nat → Int32} {aN : Nat → Int32} {aF : Nat → Int32} {lC : Nat → Int64} {lS : Nat → Int64} {lP : Nat → Int64} {lX : Nat → Int64} {ztc : Int32} {aTs : Nat → Int32} {aTn : Nat → Int32} {zoc : Int32} {aOs : Nat → Int32} {aOn : Nat → Int32} {aTp : Nat → Int32} {zln : Int32} {zpl : Int32} {zfa : Int32} {aSz : Nat → Int32} {zit : Int32} {zip : Int32} {zic : Int32} {zig : Int32} {M : Nat → Nat → Int64} {v1 : Int32} {z : (Nat → Int32) × Int32}  (h : f_X1_append aTp zln v1 = some z) : Ct l G yX1_append cX1_append 2 none 0 0 [.ref (q 16), .int v1] (kW G q zp ze zf zg zn aG aW aR aN aF lC lS lP lX ++ (oW G q ztc aTs aTn zoc aOs aOn aTp zln zpl zfa aSz zit zip zic zig M ++ fr)) (none) (kW G q zp ze zf zg zn aG aW aR aN aF lC lS lP lX ++ (oW G q ztc aTs aTn zoc aOs aOn z.1 z.2 zpl zfa aSz zit zip zic zig M ++ fr)) := by
  refine Ct.of (by decide +kernel) (Nat.le_of_ble_eq_true rfl) trivial ?_
  intro p e s m args below meth c Q A ls F hw hA hE hl
  have hx := F.x
  have hb := F.b
  unfold f_X1_append at h
  obtain ⟨H, hH⟩ : ∃ H, H = s.heap := ⟨_, rfl⟩
  obtain ⟨locs, hlo⟩ : ∃ locs : List Loc, locs = [] := ⟨_, rfl⟩
  rw [← hH, ← hlo] at hw ⊢
  have hl : lv_has ls 2 [(0, .ref (q 16)), (1, .int v1)] := hl
  refine lv_aload_n hx hb dX1_append_0 rfl (lv_at hl 0 rfl) ?_
  refine gf_1_38 F hw dX1_append_1 ?_
  refine lv_bipush (v := 80) hx hb dX1_append_4 (by decide) ?_
  refine lv_icmp_lt (tgt := 10) hx hb dX1_append_6 (by decide) (fun c1 => ?_) (fun c1 => ?_)
  · replace h := stT c1 h
    refine lv_aload_n hx hb dX1_append_10 rfl (lv_at hl 0 rfl) ?_
    refine gf_1_9 F hw dX1_append_11 ?_
    refine lv_aload_n hx hb dX1_append_14 rfl (lv_at hl 0 rfl) ?_
    refine gf_1_38 F hw dX1_append_15 ?_
    refine lv_iload_n hx hb dX1_append_18 rfl (lv_at hl 1 rfl) ?_
    refine lv_i2b (v := v1.toInt8.toInt32) hx hb dX1_append_19 rfl ?_
    obtain ⟨g2, h⟩ := stG h
    refine as_c17 F hw g2 dX1_append_20 (fun H locs hw => ?_)
    refine lv_aload_n hx hb dX1_append_21 rfl (lv_at hl 0 rfl) ?_
    refine lv_dup hx hb dX1_append_22 rfl ?_
    refine gf_1_38 F hw dX1_append_23 ?_
    refine lv_iconst (v := 1) hx hb dX1_append_26 (by decide) ?_
    refine lv_iadd hx hb dX1_append_27 ?_
    refine pf_1_38 F hw dX1_append_28 (fun H locs hw => ?_)
    obtain rfl := Option.some.inj h
    exact hE H locs _ ls hw dX1_append_31
  · replace h := stF c1 h
    obtain rfl := Option.some.inj h
    exact hE H locs _ ls hw dX1_append_9
end
theorem dX1_letter_0 : decode cX1_letter 0 = .ok (.aload_n 0, 1) := by decide +kernel
theorem dX1_letter_1 : decode cX1_letter 1 = .ok (.getfield 42, 3) := by decide +kernel
theorem dX1_letter_4 : decode cX1_letter 4 = .ok (.aload_n 0, 1) := by decide +kernel
theorem dX1_letter_5 : decode cX1_letter 5 = .ok (.getfield 38, 3) := by decide +kernel
theorem dX1_letter_8 : decode cX1_letter 8 = .ok (.if_icmp .ge 15, 3) := by decide +kernel
theorem dX1_letter_11 : decode cX1_letter 11 = .ok (.aload_n 0, 1) := by decide +kernel
theorem dX1_letter_12 : decode cX1_letter 12 = .ok (.getfield 9, 3) := by decide +kernel
theorem dX1_letter_15 : decode cX1_letter 15 = .ok (.aload_n 0, 1) := by decide +kernel
theorem dX1_letter_16 : decode cX1_letter 16 = .ok (.getfield 42, 3) := by decide +kernel
theorem dX1_letter_19 : decode cX1_letter 19 = .ok (.baload, 1) := by decide +kernel
theorem dX1_letter_20 : decode cX1_letter 20 = .ok (.goto 4, 3) := by decide +kernel
theorem dX1_letter_23 : decode cX1_letter 23 = .ok (.iconst (-1), 1) := by decide +kernel
theorem dX1_letter_24 : decode cX1_letter 24 = .ok (.ireturn, 1) := by decide +kernel
section
variable {p : Program} {l : Launch} {e : Env} {s : State} {m : MethodId} {args : Array Value} {below : List Frame} {meth : Method} {c : Code} {Q : State → Prop} {G : GG} {A : Nat → Prop} {q : Nat → Nat} {fr : va_W}
def f_X1_letter (aTp : Nat → Int32) (zln : Int32) (zpl : Int32) : Option (Int32) :=
  if zln ≤ zpl then
  some (-1)
  else
  if inb zpl 80 then
  some (aTp zpl.toNatClampNeg)
  else none
set_option maxHeartbeats 4000000 in
set_option maxRecDepth 100000 in
theorem k_X1_letter {l : Launch} {G : GG} {q : Nat → Nat} {fr : va_W}  {zp : Int32} {ze : Int32} {zf : Int32} {zg : Int32} {zn : Int32} {aG : Nat → Int32} {aW : Nat → Int32} {aR : Nat → Int32} {aN : Nat → Int32} {aF : Nat → Int32} {lC : Nat → Int64} {lS : Nat → Int64} {lP : Nat → Int64} {lX : Nat → Int64} {ztc : Int32} {aTs : Nat → Int32} {aTn : Nat → Int32} {zoc : Int32} {aOs : Nat → Int32} {aOn : Nat → Int32} {aTp : Nat → Int32} {zln : Int32} {zpl : Int32} {zfa : Int32} {aSz : Nat → Int32} {zit : Int32} {zip : Int32} {zic : Int32} {zig : Int32} {M : Nat → Nat → Int64}  {z : Int32}  (h : f_X1_letter aTp zln zpl = some z) : Ct l G yX1_letter cX1_letter 1 (some .int) 0 0 [.ref (q 16)] (kW G q zp ze zf zg zn aG aW aR aN aF lC lS lP lX ++ (oW G q ztc aTs aTn zoc aOs aOn aTp zln zpl zfa aSz zit zip zic zig M ++ fr)) (some (.int z)) (kW G q zp ze zf zg zn aG aW aR aN aF lC lS lP lX ++ (oW G q ztc aTs aTn zoc aOs aOn aTp zln zpl zfa aSz zit zip zic zig M ++ fr)) := by
  refine Ct.of (by decide +kernel) (Nat.le_of_ble_eq_true rfl) trivial ?_
  intro p e s m args below meth c Q A ls F hw hA hE hl
  have hx := F.x
  have hb := F.b
  unfold f_X1_letter at h
  obtain ⟨H, hH⟩ : ∃ H, H = s.heap := ⟨_, rfl⟩
  obtain ⟨locs, hlo⟩ : ∃ locs : List Loc, locs = [] := ⟨_, rfl⟩
  rw [← hH, ← hlo] at hw ⊢
  have hl : lv_has ls 1 [(0, .ref (q 16))] := hl
  refine lv_aload_n hx hb dX1_letter_0 rfl (lv_at hl 0 rfl) ?_
  refine gf_1_42 F hw dX1_letter_1 ?_
  refine lv_aload_n hx hb dX1_letter_4 rfl (lv_at hl 0 rfl) ?_
  refine gf_1_38 F hw dX1_letter_5 ?_
  refine lv_icmp_ge (tgt := 23) hx hb dX1_letter_8 (by decide) (fun c1 => ?_) (fun c1 => ?_)
  · replace h := stT c1 h
    refine lv_iconst (v := -1) hx hb dX1_letter_23 (by decide) ?_
    obtain rfl := Option.some.inj h
    exact hE H locs _ ls hw dX1_letter_24
  · replace h := stF c1 h
    refine lv_aload_n hx hb dX1_letter_11 rfl (lv_at hl 0 rfl) ?_
    refine gf_1_9 F hw dX1_letter_12 ?_
    refine lv_aload_n hx hb dX1_letter_15 rfl (lv_at hl 0 rfl) ?_
    refine gf_1_42 F hw dX1_letter_16 ?_
    obtain ⟨g2, h⟩ := stG h
    refine al_c17 F hw g2 dX1_letter_19 ?_
    refine lv_goto (tgt := 24) hx hb dX1_letter_20 (by decide) ?_
    obtain rfl := Option.some.inj h
    exact hE H locs _ ls hw dX1_letter_24
end
theorem dX1_isSign_0 : decode cX1_isSign 0 = .ok (.iload_n 0, 1) := by decide +kernel
theorem dX1_isSign_1 : decode cX1_isSign 1 = .ok (.bipush 43, 2) := by decide +kernel
theorem dX1_isSign_3 : decode cX1_isSign 3 = .ok (.if_icmp .eq 9, 3) := by decide +kernel
theorem dX1_isSign_6 : decode cX1_isSign 6 = .ok (.iload_n 0, 1) := by decide +kernel
theorem dX1_isSign_7 : decode cX1_isSign 7 = .ok (.bipush 45, 2) := by decide +kernel
theorem dX1_isSign_9 : decode cX1_isSign 9 = .ok (.if_icmp .ne 7, 3) := by decide +kernel
theorem dX1_isSign_12 : decode cX1_isSign 12 = .ok (.iconst 1, 1) := by decide +kernel
theorem dX1_isSign_13 : decode cX1_isSign 13 = .ok (.goto 4, 3) := by decide +kernel
theorem dX1_isSign_16 : decode cX1_isSign 16 = .ok (.iconst 0, 1) := by decide +kernel
theorem dX1_isSign_17 : decode cX1_isSign 17 = .ok (.ireturn, 1) := by decide +kernel
section
variable {p : Program} {l : Launch} {e : Env} {s : State} {m : MethodId} {args : Array Value} {below : List Frame} {meth : Method} {c : Code} {Q : State → Prop} {G : GG} {A : Nat → Prop} {q : Nat → Nat} {fr : va_W}
def f_X1_isSign (v0 : Int32) : Option (Int32) :=
  if v0 = 43 then
  some 1
  else
  if v0 = 45 then
  some 1
  else
  some 0
set_option maxHeartbeats 4000000 in
set_option maxRecDepth 100000 in
theorem k_X1_isSign {l : Launch} {G : GG} {fr : va_W}   {v0 : Int32} {z : Int32}  (h : f_X1_isSign v0 = some z) : Ct l G yX1_isSign cX1_isSign 1 (some .boolean) 0 0 [.int v0] fr (some (.int z)) fr := by
  refine Ct.of (by decide +kernel) (Nat.le_of_ble_eq_true rfl) trivial ?_
  intro p e s m args below meth c Q A ls F hw hA hE hl
  have hx := F.x
  have hb := F.b
  unfold f_X1_isSign at h
  obtain ⟨H, hH⟩ : ∃ H, H = s.heap := ⟨_, rfl⟩
  obtain ⟨locs, hlo⟩ : ∃ locs : List Loc, locs = [] := ⟨_, rfl⟩
  rw [← hH, ← hlo] at hw ⊢
  have hl : lv_has ls 1 [(0, .int v0)] := hl
  refine lv_iload_n hx hb dX1_isSign_0 rfl (lv_at hl 0 rfl) ?_
  refine lv_bipush (v := 43) hx hb dX1_isSign_1 (by decide) ?_
  refine lv_icmp_eq (tgt := 12) hx hb dX1_isSign_3 (by decide) (fun c1 => ?_) (fun c1 => ?_)
  · replace h := stT c1 h
    refine lv_iconst (v := 1) hx hb dX1_isSign_12 (by decide) ?_
    refine lv_goto (tgt := 17) hx hb dX1_isSign_13 (by decide) ?_
    obtain rfl := Option.some.inj h
    exact hE H locs _ ls hw (Or.inr rfl) dX1_isSign_17
  · replace h := stF c1 h
    refine lv_iload_n hx hb dX1_isSign_6 rfl (lv_at hl 0 rfl) ?_
    refine lv_bipush (v := 45) hx hb dX1_isSign_7 (by decide) ?_
    refine lv_icmp_ne (tgt := 16) hx hb dX1_isSign_9 (by decide) (fun c2 => ?_) (fun c2 => ?_)
    · replace h := stF c2 h
      refine lv_iconst (v := 0) hx hb dX1_isSign_16 (by decide) ?_
      obtain rfl := Option.some.inj h
      exact hE H locs _ ls hw (Or.inl rfl) dX1_isSign_17
    · replace h := stT c2 h
      refine lv_iconst (v := 1) hx hb dX1_isSign_12 (by decide) ?_
      refine lv_goto (tgt := 17) hx hb dX1_isSign_13 (by decide) ?_
      obtain rfl := Option.some.inj h
      exact hE H locs _ ls hw (Or.inr rfl) dX1_isSign_17
end
theorem dX1_isFigure_0 : decode cX1_isFigure 0 = .ok (.iload_n 0, 1) := by decide +kernel
theorem dX1_isFigure_1 : decode cX1_isFigure 1 = .ok (.bipush 48, 2) := by decide +kernel
theorem dX1_isFigure_3 : decode cX1_isFigure 3 = .ok (.if_icmp .lt 13, 3) := by decide +kernel
theorem dX1_isFigure_6 : decode cX1_isFigure 6 = .ok (.iload_n 0, 1) := by decide +kernel
theorem dX1_isFigure_7 : decode cX1_isFigure 7 = .ok (.bipush 57, 2) := by decide +kernel
theorem dX1_isFigure_9 : decode cX1_isFigure 9 = .ok (.if_icmp .gt 7, 3) := by decide +kernel
theorem dX1_isFigure_12 : decode cX1_isFigure 12 = .ok (.iconst 1, 1) := by decide +kernel
theorem dX1_isFigure_13 : decode cX1_isFigure 13 = .ok (.goto 4, 3) := by decide +kernel
theorem dX1_isFigure_16 : decode cX1_isFigure 16 = .ok (.iconst 0, 1) := by decide +kernel
theorem dX1_isFigure_17 : decode cX1_isFigure 17 = .ok (.ireturn, 1) := by decide +kernel
section
variable {p : Program} {l : Launch} {e : Env} {s : State} {m : MethodId} {args : Array Value} {below : List Frame} {meth : Method} {c : Code} {Q : State → Prop} {G : GG} {A : Nat → Prop} {q : Nat → Nat} {fr : va_W}
def f_X1_isFigure (v0 : Int32) : Option (Int32) :=
  if v0 < 48 then
  some 0
  else
  if 57 < v0 then
  some 0
  else
  some 1
set_option maxHeartbeats 4000000 in
set_option maxRecDepth 100000 in
theorem k_X1_isFigure {l : Launch} {G : GG} {fr : va_W}   {v0 : Int32} {z : Int32}  (h : f_X1_isFigure v0 = some z) : Ct l G yX1_isFigure cX1_isFigure 1 (some .boolean) 0 0 [.int v0] fr (some (.int z)) fr := by
  refine Ct.of (by decide +kernel) (Nat.le_of_ble_eq_true rfl) trivial ?_
  intro p e s m args below meth c Q A ls F hw hA hE hl
  have hx := F.x
  have hb := F.b
  unfold f_X1_isFigure at h
  obtain ⟨H, hH⟩ : ∃ H, H = s.heap := ⟨_, rfl⟩
  obtain ⟨locs, hlo⟩ : ∃ locs : List Loc, locs = [] := ⟨_, rfl⟩
  rw [← hH, ← hlo] at hw ⊢
  have hl : lv_has ls 1 [(0, .int v0)] := hl
  refine lv_iload_n hx hb dX1_isFigure_0 rfl (lv_at hl 0 rfl) ?_
  refine lv_bipush (v := 48) hx hb dX1_isFigure_1 (by decide) ?_
  refine lv_icmp_lt (tgt := 16) hx hb dX1_isFigure_3 (by decide) (fun c1 => ?_) (fun c1 => ?_)
  · replace h := stT c1 h
    refine lv_iconst (v := 0) hx hb dX1_isFigure_16 (by decide) ?_
    obtain rfl := Option.some.inj h
    exact hE H locs _ ls hw (Or.inl rfl) dX1_isFigure_17
  · replace h := stF c1 h
    refine lv_iload_n hx hb dX1_isFigure_6 rfl (lv_at hl 0 rfl) ?_
    refine lv_bipush (v := 57) hx hb dX1_isFigure_7 (by decide) ?_
    refine lv_icmp_gt (tgt := 16) hx hb dX1_isFigure_9 (by decide) (fun c2 => ?_) (fun c2 => ?_)
    · replace h := stT c2 h
      refine lv_iconst (v := 0) hx hb dX1_isFigure_16 (by decide) ?_
      obtain rfl := Option.some.inj h
      exact hE H locs _ ls hw (Or.inl rfl) dX1_isFigure_17
    · replace h := stF c2 h
      refine lv_iconst (v := 1) hx hb dX1_isFigure_12 (by decide) ?_
      refine lv_goto (tgt := 17) hx hb dX1_isFigure_13 (by decide) ?_
      obtain rfl := Option.some.inj h
      exact hE H locs _ ls hw (Or.inr rfl) dX1_isFigure_17
end
theorem dX1_readFigures_0 : decode cX1_readFigures 0 = .ok (.iconst 0, 1) := by decide +kernel
theorem dX1_readFigures_1 : decode cX1_readFigures 1 = .ok (.istore_n 2, 1) := by decide +kernel
theorem dX1_readFigures_2 : decode cX1_readFigures 2 = .ok (.iconst 0, 1) := by decide +kernel
theorem dX1_readFigures_3 : decode cX1_readFigures 3 = .ok (.istore_n 3, 1) := by decide +kernel
theorem dX1_readFigures_4 : decode cX1_readFigures 4 = .ok (.iload_n 3, 1) := by decide +kernel
theorem dX1_readFigures_5 : decode cX1_readFigures 5 = .ok (.iload_n 1, 1) := by decide +kernel
theorem dX1_readFigures_6 : decode cX1_readFigures 6 = .ok (.if_icmp .ge 42, 3) := by decide +kernel
theorem dX1_readFigures_9 : decode cX1_readFigures 9 = .ok (.aload_n 0, 1) := by decide +kernel
theorem dX1_readFigures_10 : decode cX1_readFigures 10 = .ok (.invokevirtual 52, 3) := by decide +kernel
theorem dX1_readFigures_13 : decode cX1_readFigures 13 = .ok (.invokestatic 88, 3) := by decide +kernel
theorem dX1_readFigures_16 : decode cX1_readFigures 16 = .ok (.ifCond .eq 32, 3) := by decide +kernel
theorem dX1_readFigures_19 : decode cX1_readFigures 19 = .ok (.bipush 10, 2) := by decide +kernel
theorem dX1_readFigures_21 : decode cX1_readFigures 21 = .ok (.iload_n 2, 1) := by decide +kernel
theorem dX1_readFigures_22 : decode cX1_readFigures 22 = .ok (.imul, 1) := by decide +kernel
theorem dX1_readFigures_23 : decode cX1_readFigures 23 = .ok (.aload_n 0, 1) := by decide +kernel
theorem dX1_readFigures_24 : decode cX1_readFigures 24 = .ok (.invokevirtual 52, 3) := by decide +kernel
theorem dX1_readFigures_27 : decode cX1_readFigures 27 = .ok (.iadd, 1) := by decide +kernel
theorem dX1_readFigures_28 : decode cX1_readFigures 28 = .ok (.bipush 48, 2) := by decide +kernel
theorem dX1_readFigures_30 : decode cX1_readFigures 30 = .ok (.isub, 1) := by decide +kernel
theorem dX1_readFigures_31 : decode cX1_readFigures 31 = .ok (.istore_n 2, 1) := by decide +kernel
theorem dX1_readFigures_32 : decode cX1_readFigures 32 = .ok (.aload_n 0, 1) := by decide +kernel
theorem dX1_readFigures_33 : decode cX1_readFigures 33 = .ok (.dup, 1) := by decide +kernel
theorem dX1_readFigures_34 : decode cX1_readFigures 34 = .ok (.getfield 42, 3) := by decide +kernel
theorem dX1_readFigures_37 : decode cX1_readFigures 37 = .ok (.iconst 1, 1) := by decide +kernel
theorem dX1_readFigures_38 : decode cX1_readFigures 38 = .ok (.iadd, 1) := by decide +kernel
theorem dX1_readFigures_39 : decode cX1_readFigures 39 = .ok (.putfield 42, 3) := by decide +kernel
theorem dX1_readFigures_42 : decode cX1_readFigures 42 = .ok (.iinc 3 1, 3) := by decide +kernel
theorem dX1_readFigures_45 : decode cX1_readFigures 45 = .ok (.goto (-41), 3) := by decide +kernel
theorem dX1_readFigures_48 : decode cX1_readFigures 48 = .ok (.iload_n 2, 1) := by decide +kernel
theorem dX1_readFigures_49 : decode cX1_readFigures 49 = .ok (.ireturn, 1) := by decide +kernel
section
variable {p : Program} {l : Launch} {e : Env} {s : State} {m : MethodId} {args : Array Value} {below : List Frame} {meth : Method} {c : Code} {Q : State → Prop} {G : GG} {A : Nat → Prop} {q : Nat → Nat} {fr : va_W}
def f_X1_readFigures_L4 (aTp : Nat → Int32) (zln : Int32) (v1 : Int32) : Nat → Int32 → Int32 → Int32 → Option (Int32 × Int32)
  | 0, _, _, _ => none
  | fu + 1, zpl, v2, v3 =>
    if v1 ≤ v3 then
    some (v2, zpl)
    else
    (f_X1_letter aTp zln zpl).bind fun z2 =>
    (f_X1_isFigure z2).bind fun z3 =>
    if z3 = 0 then
    some (v2, zpl)
    else
    (f_X1_letter aTp zln zpl).bind fun z5 =>
    f_X1_readFigures_L4 aTp zln v1 fu (zpl + 1) (((10 * v2) + z5) - 48) (v3 + 1)
set_option maxHeartbeats 4000000 in
set_option maxRecDepth 100000 in
theorem w_X1_readFigures_L4  {zp : Int32} {ze : Int32} {zf : Int32} {zg : Int32} {zn : Int32} {aG : Nat → Int32} {aW : Nat → Int32} {aR : Nat → Int32} {aN : Nat → Int32} {aF : Nat → Int32} {lC : Nat → Int64} {lS : Nat → Int64} {lP : Nat → Int64} {lX : Nat → Int64} {ztc : Int32} {aTs : Nat → Int32} {aTn : Nat → Int32} {zoc : Int32} {aOs : Nat → Int32} {aOn : Nat → Int32} {aTp : Nat → Int32} {zln : Int32} {zfa : Int32} {aSz : Nat → Int32} {zit : Int32} {zip : Int32} {zic : Int32} {zig : Int32} {M : Nat → Nat → Int64} {v1 : Int32}  (F : Fx p s m args meth c cX1_readFigures 4 RX1 (some .int)) (hA : ∀ q, s.heap.size ≤ q → A q)   : ∀ (fu : Nat) (zpl : Int32) (v2 : Int32) (v3 : Int32) (z : Int32 × Int32), f_X1_readFigures_L4 aTp zln v1 fu zpl v2 v3 = some z → Ends p l e (rmOf 1 20) s m args below meth c Q cX1_readFigures G A (some .int) (some (.int z.1)) (kW G q zp ze zf zg zn aG aW aR aN aF lC lS lP lX ++ (oW G q ztc aTs aTn zoc aOs aOn aTp zln z.2 zfa aSz zit zip zic zig M ++ fr)) → ∀ (H : Heap) (locs : List Loc) (ls : Array Slot), Wd G s A (kW G q zp ze zf zg zn aG aW aR aN aF lC lS lP lX ++ (oW G q ztc aTs aTn zoc aOs aOn aTp zln zpl zfa aSz zit zip zic zig M ++ fr)) H locs → lv_has ls 4 [(0, .ref (q 16)), (1, .int v1), (2, .int v2), (3, .int v3)] → W p l e (rmOf 1 20) s m args below meth c H locs 0 0 Q (F0 m 4 ls []) := by
  have hx := F.x
  have hb := F.b
  intro fu
  induction fu with
  | zero =>
    intro zpl v2 v3 z h
    cases (h : none = some z)
  | succ fu ih =>
    intro zpl v2 v3 z h hE H locs ls hw hl
    rw [f_X1_readFigures_L4] at h
    refine lv_iload_n hx hb dX1_readFigures_4 rfl (lv_at hl 3 rfl) ?_
    refine lv_iload_n hx hb dX1_readFigures_5 rfl (lv_at hl 1 rfl) ?_
    refine lv_icmp_ge (tgt := 48) hx hb dX1_readFigures_6 (by decide) (fun c1 => ?_) (fun c1 => ?_)
    · replace h := stT c1 h
      refine lv_iload_n hx hb dX1_readFigures_48 rfl (lv_at hl 2 rfl) ?_
      obtain rfl := Option.some.inj h
      exact hE H locs _ ls hw dX1_readFigures_49
    · replace h := stF c1 h
      refine lv_aload_n hx hb dX1_readFigures_9 rfl (lv_at hl 0 rfl) ?_
      obtain ⟨z2, hz2, h⟩ := stB h
      refine ctV (av := []) (st0 := ([] : List Value)) (st1 := ([.int z2] : List Value)) F hw hA (k_X1_letter hz2) kl_1_52 kd_X1_letter rfl ⟨by decide, by decide⟩ 16 rfl rfl hl.1 rfl (Nat.le_of_ble_eq_true rfl) dX1_readFigures_10 rfl (fun H locs hw => ?_)
      obtain ⟨z3, hz3, h⟩ := stB h
      refine ctS (av := [.int z2]) (st0 := ([] : List Value)) (st1 := ([.int z3] : List Value)) F hw hA (k_X1_isFigure hz3) kl_1_88 kd_X1_isFigure rfl ⟨by decide, by decide⟩ hl.1 rfl (Nat.le_of_ble_eq_true rfl) dX1_readFigures_13 rfl (fun H locs hw => ?_)
      refine lv_if_eq (tgt := 48) hx hb dX1_readFigures_16 (by decide) (fun c4 => ?_) (fun c4 => ?_)
      · replace h := stT c4 h
        refine lv_iload_n hx hb dX1_readFigures_48 rfl (lv_at hl 2 rfl) ?_
        obtain rfl := Option.some.inj h
        exact hE H locs _ ls hw dX1_readFigures_49
      · replace h := stF c4 h
        refine lv_bipush (v := 10) hx hb dX1_readFigures_19 (by decide) ?_
        refine lv_iload_n hx hb dX1_readFigures_21 rfl (lv_at hl 2 rfl) ?_
        refine lv_imul hx hb dX1_readFigures_22 ?_
        refine lv_aload_n hx hb dX1_readFigures_23 rfl (lv_at hl 0 rfl) ?_
        obtain ⟨z5, hz5, h⟩ := stB h
        refine ctV (av := []) (st0 := ([.int (10 * v2)] : List Value)) (st1 := ([.int z5, .int (10 * v2)] : List Value)) F hw hA (k_X1_letter hz5) kl_1_52 kd_X1_letter rfl ⟨by decide, by decide⟩ 16 rfl rfl hl.1 rfl (Nat.le_of_ble_eq_true rfl) dX1_readFigures_24 rfl (fun H locs hw => ?_)
        refine lv_iadd hx hb dX1_readFigures_27 ?_
        refine lv_bipush (v := 48) hx hb dX1_readFigures_28 (by decide) ?_
        refine lv_isub hx hb dX1_readFigures_30 ?_
        refine lv_istore_n (lv' := [(2, .int (((10 * v2) + z5) - 48)), (0, .ref (q 16)), (1, .int v1), (3, .int v3)]) hx hb dX1_readFigures_31 rfl hl (by decide) rfl (fun ls hl => ?_)
        refine lv_aload_n hx hb dX1_readFigures_32 rfl (lv_at hl 1 rfl) ?_
        refine lv_dup hx hb dX1_readFigures_33 rfl ?_
        refine gf_1_42 F hw dX1_readFigures_34 ?_
        refine lv_iconst (v := 1) hx hb dX1_readFigures_37 (by decide) ?_
        refine lv_iadd hx hb dX1_readFigures_38 ?_
        refine pf_1_42 F hw dX1_readFigures_39 (fun H locs hw => ?_)
        refine lv_iinc (v := (v3 + 1)) (lv' := [(3, .int (v3 + 1)), (2, .int (((10 * v2) + z5) - 48)), (0, .ref (q 16)), (1, .int v1)]) hx hb dX1_readFigures_42 hl (k := 3) rfl rfl (by decide) rfl (fun ls hl => ?_)
        refine lv_goto (tgt := 4) hx hb dX1_readFigures_45 (by decide) ?_
        exact ih _ _ _ z h hE H locs ls hw (lv_sub hl [2, 3, 1, 0] rfl)
def f_X1_readFigures (aTp : Nat → Int32) (zln : Int32) (zpl : Int32) (v1 : Int32) : Option (Int32 × Int32) :=
  f_X1_readFigures_L4 aTp zln v1 FU zpl 0 0
set_option maxHeartbeats 4000000 in
set_option maxRecDepth 100000 in
theorem k_X1_readFigures {l : Launch} {G : GG} {q : Nat → Nat} {fr : va_W}  {zp : Int32} {ze : Int32} {zf : Int32} {zg : Int32} {zn : Int32} {aG : Nat → Int32} {aW : Nat → Int32} {aR : Nat → Int32} {aN : Nat → Int32} {aF : Nat → Int32} {lC : Nat → Int64} {lS : Nat → Int64} {lP : Nat → Int64} {lX : Nat → Int64} {ztc : Int32} {aTs : Nat → Int32} {aTn : Nat → Int32} {zoc : Int32} {aOs : Nat → Int32} {aOn : Nat → Int32} {aTp : Nat → Int32} {zln : Int32} {zpl : Int32} {zfa : Int32} {aSz : Nat → Int32} {zit : Int32} {zip : Int32} {zic : Int32} {zig : Int32} {M : Nat → Nat → Int64} {v1 : Int32} {z : Int32 × Int32}  (h : f_X1_readFigures aTp zln zpl v1 = some z) : Ct l G yX1_readFigures cX1_readFigures 4 (some .int) 1 20 [.ref (q 16), .int v1] (kW G q zp ze zf zg zn aG aW aR aN aF lC lS lP lX ++ (oW G q ztc aTs aTn zoc aOs aOn aTp zln zpl zfa aSz zit zip zic zig M ++ fr)) (some (.int z.1)) (kW G q zp ze zf zg zn aG aW aR aN aF lC lS lP lX ++ (oW G q ztc aTs aTn zoc aOs aOn aTp zln z.2 zfa aSz zit zip zic zig M ++ fr)) := by
  refine Ct.of (by decide +kernel) (Nat.le_of_ble_eq_true rfl) trivial ?_
  intro p e s m args below meth c Q A ls F hw hA hE hl
  have hx := F.x
  have hb := F.b
  unfold f_X1_readFigures at h
  obtain ⟨H, hH⟩ : ∃ H, H = s.heap := ⟨_, rfl⟩
  obtain ⟨locs, hlo⟩ : ∃ locs : List Loc, locs = [] := ⟨_, rfl⟩
  rw [← hH, ← hlo] at hw ⊢
  have hl : lv_has ls 4 [(0, .ref (q 16)), (1, .int v1)] := hl
  refine lv_iconst (v := 0) hx hb dX1_readFigures_0 (by decide) ?_
  refine lv_istore_n (lv' := [(2, .int 0), (0, .ref (q 16)), (1, .int v1)]) hx hb dX1_readFigures_1 rfl hl (by decide) rfl (fun ls hl => ?_)
  refine lv_iconst (v := 0) hx hb dX1_readFigures_2 (by decide) ?_
  refine lv_istore_n (lv' := [(3, .int 0), (2, .int 0), (0, .ref (q 16)), (1, .int v1)]) hx hb dX1_readFigures_3 rfl hl (by decide) rfl (fun ls hl => ?_)
  exact w_X1_readFigures_L4 F hA  FU _ _ _ z h hE H locs ls hw (lv_sub hl [2, 3, 1, 0] rfl)
end
theorem dX1_faultAt_0 : decode cX1_faultAt 0 = .ok (.aload_n 0, 1) := by decide +kernel
theorem dX1_faultAt_1 : decode cX1_faultAt 1 = .ok (.iload_n 1, 1) := by decide +kernel
theorem dX1_faultAt_2 : decode cX1_faultAt 2 = .ok (.putfield 45, 3) := by decide +kernel
theorem dX1_faultAt_5 : decode cX1_faultAt 5 = .ok (.aload_n 0, 1) := by decide +kernel
theorem dX1_faultAt_6 : decode cX1_faultAt 6 = .ok (.getfield 34, 3) := by decide +kernel
theorem dX1_faultAt_9 : decode cX1_faultAt 9 = .ok (.bipush 7, 2) := by decide +kernel
theorem dX1_faultAt_11 : decode cX1_faultAt 11 = .ok (.iload_n 1, 1) := by decide +kernel
theorem dX1_faultAt_12 : decode cX1_faultAt 12 = .ok (.invokevirtual 123, 3) := by decide +kernel
theorem dX1_faultAt_15 : decode cX1_faultAt 15 = .ok (.ireturn, 1) := by decide +kernel
section
variable {p : Program} {l : Launch} {e : Env} {s : State} {m : MethodId} {args : Array Value} {below : List Frame} {meth : Method} {c : Code} {Q : State → Prop} {G : GG} {A : Nat → Prop} {q : Nat → Nat} {fr : va_W}
def f_X1_faultAt (ztc : Int32) (aTs : Nat → Int32) (aTn : Nat → Int32) (zoc : Int32) (aOs : Nat → Int32) (aOn : Nat → Int32) (zfa : Int32) (v1 : Int32) : Option (Int32 × Int32 × (Nat → Int32) × (Nat → Int32) × Int32 × Int32) :=
  (f_X3_report ztc aTs aTn zoc aOs aOn 7 v1).bind fun z1 =>
  if z1.1 = 0 ∨ z1.1 = 1 then
  some (z1.1, z1.2.1, z1.2.2.1, z1.2.2.2.1, z1.2.2.2.2, v1)
  else none
set_option maxHeartbeats 4000000 in
set_option maxRecDepth 100000 in
theorem k_X1_faultAt {l : Launch} {G : GG} {q : Nat → Nat} {fr : va_W}  {zp : Int32} {ze : Int32} {zf : Int32} {zg : Int32} {zn : Int32} {aG : Nat → Int32} {aW : Nat → Int32} {aR : Nat → Int32} {aN : Nat → Int32} {aF : Nat → Int32} {lC : Nat → Int64} {lS : Nat → Int64} {lP : Nat → Int64} {lX : Nat → Int64} {ztc : Int32} {aTs : Nat → Int32} {aTn : Nat → Int32} {zoc : Int32} {aOs : Nat → Int32} {aOn : Nat → Int32} {aTp : Nat → Int32} {zln : Int32} {zpl : Int32} {zfa : Int32} {aSz : Nat → Int32} {zit : Int32} {zip : Int32} {zic : Int32} {zig : Int32} {M : Nat → Nat → Int64} {v1 : Int32} {z : Int32 × Int32 × (Nat → Int32) × (Nat → Int32) × Int32 × Int32}  (h : f_X1_faultAt ztc aTs aTn zoc aOs aOn zfa v1 = some z) : Ct l G yX1_faultAt cX1_faultAt 2 (some .boolean) 1 23 [.ref (q 16), .int v1] (kW G q zp ze zf zg zn aG aW aR aN aF lC lS lP lX ++ (oW G q ztc aTs aTn zoc aOs aOn aTp zln zpl zfa aSz zit zip zic zig M ++ fr)) (some (.int z.1)) (kW G q zp ze zf zg zn aG aW aR aN aF lC lS lP lX ++ (oW G q z.2.1 z.2.2.1 z.2.2.2.1 z.2.2.2.2.1 aOs aOn aTp zln zpl z.2.2.2.2.2 aSz zit zip zic zig M ++ fr)) := by
  refine Ct.of (by decide +kernel) (Nat.le_of_ble_eq_true rfl) trivial ?_
  intro p e s m args below meth c Q A ls F hw hA hE hl
  have hx := F.x
  have hb := F.b
  unfold f_X1_faultAt at h
  obtain ⟨H, hH⟩ : ∃ H, H = s.heap := ⟨_, rfl⟩
  obtain ⟨locs, hlo⟩ : ∃ locs : List Loc, locs = [] := ⟨_, rfl⟩
  rw [← hH, ← hlo] at hw ⊢
  have hl : lv_has ls 2 [(0, .ref (q 16)), (1, .int v1)] := hl
  refine lv_aload_n hx hb dX1_faultAt_0 rfl (lv_at hl 0 rfl) ?_
  refine lv_iload_n hx hb dX1_faultAt_1 rfl (lv_at hl 1 rfl) ?_
  refine pf_1_45 F hw dX1_faultAt_2 (fun H locs hw => ?_)
  refine lv_aload_n hx hb dX1_faultAt_5 rfl (lv_at hl 0 rfl) ?_
  refine gf_1_34 F hw dX1_faultAt_6 ?_
  refine lv_bipush (v := 7) hx hb dX1_faultAt_9 (by decide) ?_
  refine lv_iload_n hx hb dX1_faultAt_11 rfl (lv_at hl 1 rfl) ?_
  obtain ⟨z1, hz1, h⟩ := stB h
  refine ctV (av := [.int 7, .int v1]) (st0 := ([] : List Value)) (st1 := ([.int z1.1] : List Value)) F hw hA (k_X3_report hz1) kl_1_123 kd_X3_report rfl ⟨by decide, by decide⟩ 10 rfl rfl hl.1 rfl (Nat.le_of_ble_eq_true rfl) dX1_faultAt_12 rfl (fun H locs hw => ?_)
  obtain ⟨g2, h⟩ := stG h
  obtain rfl := Option.some.inj h
  exact hE H locs _ ls hw g2 dX1_faultAt_15
end
theorem dX1_readPeriod_0 : decode cX1_readPeriod 0 = .ok (.aload_n 0, 1) := by decide +kernel
theorem dX1_readPeriod_1 : decode cX1_readPeriod 1 = .ok (.dup, 1) := by decide +kernel
theorem dX1_readPeriod_2 : decode cX1_readPeriod 2 = .ok (.getfield 42, 3) := by decide +kernel
theorem dX1_readPeriod_5 : decode cX1_readPeriod 5 = .ok (.iconst 1, 1) := by decide +kernel
theorem dX1_readPeriod_6 : decode cX1_readPeriod 6 = .ok (.iadd, 1) := by decide +kernel
theorem dX1_readPeriod_7 : decode cX1_readPeriod 7 = .ok (.putfield 42, 3) := by decide +kernel
theorem dX1_readPeriod_10 : decode cX1_readPeriod 10 = .ok (.aload_n 0, 1) := by decide +kernel
theorem dX1_readPeriod_11 : decode cX1_readPeriod 11 = .ok (.invokevirtual 52, 3) := by decide +kernel
theorem dX1_readPeriod_14 : decode cX1_readPeriod 14 = .ok (.invokestatic 88, 3) := by decide +kernel
theorem dX1_readPeriod_17 : decode cX1_readPeriod 17 = .ok (.ifCond .ne 12, 3) := by decide +kernel
theorem dX1_readPeriod_20 : decode cX1_readPeriod 20 = .ok (.aload_n 0, 1) := by decide +kernel
theorem dX1_readPeriod_21 : decode cX1_readPeriod 21 = .ok (.aload_n 0, 1) := by decide +kernel
theorem dX1_readPeriod_22 : decode cX1_readPeriod 22 = .ok (.getfield 42, 3) := by decide +kernel
theorem dX1_readPeriod_25 : decode cX1_readPeriod 25 = .ok (.invokevirtual 56, 3) := by decide +kernel
theorem dX1_readPeriod_28 : decode cX1_readPeriod 28 = .ok (.ireturn, 1) := by decide +kernel
theorem dX1_readPeriod_29 : decode cX1_readPeriod 29 = .ok (.aload_n 0, 1) := by decide +kernel
theorem dX1_readPeriod_30 : decode cX1_readPeriod 30 = .ok (.iconst 2, 1) := by decide +kernel
theorem dX1_readPeriod_31 : decode cX1_readPeriod 31 = .ok (.invokevirtual 91, 3) := by decide +kernel
theorem dX1_readPeriod_34 : decode cX1_readPeriod 34 = .ok (.istore_n 2, 1) := by decide +kernel
theorem dX1_readPeriod_35 : decode cX1_readPeriod 35 = .ok (.iload_n 2, 1) := by decide +kernel
theorem dX1_readPeriod_36 : decode cX1_readPeriod 36 = .ok (.aload_n 0, 1) := by decide +kernel
theorem dX1_readPeriod_37 : decode cX1_readPeriod 37 = .ok (.getfield 26, 3) := by decide +kernel
theorem dX1_readPeriod_40 : decode cX1_readPeriod 40 = .ok (.getfield 106, 3) := by decide +kernel
theorem dX1_readPeriod_43 : decode cX1_readPeriod 43 = .ok (.if_icmp .lt 14, 3) := by decide +kernel
theorem dX1_readPeriod_46 : decode cX1_readPeriod 46 = .ok (.aload_n 0, 1) := by decide +kernel
theorem dX1_readPeriod_47 : decode cX1_readPeriod 47 = .ok (.aload_n 0, 1) := by decide +kernel
theorem dX1_readPeriod_48 : decode cX1_readPeriod 48 = .ok (.getfield 42, 3) := by decide +kernel
theorem dX1_readPeriod_51 : decode cX1_readPeriod 51 = .ok (.iconst 1, 1) := by decide +kernel
theorem dX1_readPeriod_52 : decode cX1_readPeriod 52 = .ok (.isub, 1) := by decide +kernel
theorem dX1_readPeriod_53 : decode cX1_readPeriod 53 = .ok (.invokevirtual 56, 3) := by decide +kernel
theorem dX1_readPeriod_56 : decode cX1_readPeriod 56 = .ok (.ireturn, 1) := by decide +kernel
theorem dX1_readPeriod_57 : decode cX1_readPeriod 57 = .ok (.aload_n 1, 1) := by decide +kernel
theorem dX1_readPeriod_58 : decode cX1_readPeriod 58 = .ok (.iload_n 2, 1) := by decide +kernel
theorem dX1_readPeriod_59 : decode cX1_readPeriod 59 = .ok (.invokestatic 111, 3) := by decide +kernel
theorem dX1_readPeriod_62 : decode cX1_readPeriod 62 = .ok (.iconst 1, 1) := by decide +kernel
theorem dX1_readPeriod_63 : decode cX1_readPeriod 63 = .ok (.ireturn, 1) := by decide +kernel
section
variable {p : Program} {l : Launch} {e : Env} {s : State} {m : MethodId} {args : Array Value} {below : List Frame} {meth : Method} {c : Code} {Q : State → Prop} {G : GG} {A : Nat → Prop} {q : Nat → Nat} {fr : va_W}
def f_X1_readPeriod (ze : Int32) (ztc : Int32) (aTs : Nat → Int32) (aTn : Nat → Int32) (zoc : Int32) (aOs : Nat → Int32) (aOn : Nat → Int32) (aTp : Nat → Int32) (zln : Int32) (zpl : Int32) (zfa : Int32) (M : Nat → Nat → Int64) (r1 : Nat) : Option (Int32 × Int32 × (Nat → Int32) × (Nat → Int32) × Int32 × Int32 × Int32 × (Nat → Nat → Int64)) :=
  (f_X1_letter aTp zln (zpl + 1)).bind fun z1 =>
  (f_X1_isFigure z1).bind fun z2 =>
  if z2 = 0 then
  (f_X1_faultAt ztc aTs aTn zoc aOs aOn zfa (zpl + 1)).bind fun z9 =>
  if z9.1 = 0 ∨ z9.1 = 1 then
  some (z9.1, z9.2.1, z9.2.2.1, z9.2.2.2.1, z9.2.2.2.2.1, (zpl + 1), z9.2.2.2.2.2, M)
  else none
  else
  (f_X1_readFigures aTp zln (zpl + 1) 2).bind fun z4 =>
  if z4.1 < ze then
  (f_X4_setPeriod M r1 z4.1).bind fun z6 =>
  some (1, ztc, aTs, aTn, zoc, z4.2, zfa, z6)
  else
  (f_X1_faultAt ztc aTs aTn zoc aOs aOn zfa (z4.2 - 1)).bind fun z7 =>
  if z7.1 = 0 ∨ z7.1 = 1 then
  some (z7.1, z7.2.1, z7.2.2.1, z7.2.2.2.1, z7.2.2.2.2.1, z4.2, z7.2.2.2.2.2, M)
  else none
set_option maxHeartbeats 4000000 in
set_option maxRecDepth 100000 in
theorem k_X1_readPeriod {l : Launch} {G : GG} {q : Nat → Nat} {fr : va_W}  {zp : Int32} {ze : Int32} {zf : Int32} {zg : Int32} {zn : Int32} {aG : Nat → Int32} {aW : Nat → Int32} {aR : Nat → Int32} {aN : Nat → Int32} {aF : Nat → Int32} {lC : Nat → Int64} {lS : Nat → Int64} {lP : Nat → Int64} {lX : Nat → Int64} {ztc : Int32} {aTs : Nat → Int32} {aTn : Nat → Int32} {zoc : Int32} {aOs : Nat → Int32} {aOn : Nat → Int32} {aTp : Nat → Int32} {zln : Int32} {zpl : Int32} {zfa : Int32} {aSz : Nat → Int32} {zit : Int32} {zip : Int32} {zic : Int32} {zig : Int32} {M : Nat → Nat → Int64} {r1 : Nat} {z : Int32 × Int32 × (Nat → Int32) × (Nat → Int32) × Int32 × Int32 × Int32 × (Nat → Nat → Int64)} (hr1 : r1 < 32) (h : f_X1_readPeriod ze ztc aTs aTn zoc aOs aOn aTp zln zpl zfa M r1 = some z) : Ct l G yX1_readPeriod cX1_readPeriod 3 (some .boolean) 2 44 [.ref (q 16), .ref (q (26 + r1))] (kW G q zp ze zf zg zn aG aW aR aN aF lC lS lP lX ++ (oW G q ztc aTs aTn zoc aOs aOn aTp zln zpl zfa aSz zit zip zic zig M ++ fr)) (some (.int z.1)) (kW G q zp ze zf zg zn aG aW aR aN aF lC lS lP lX ++ (oW G q z.2.1 z.2.2.1 z.2.2.2.1 z.2.2.2.2.1 aOs aOn aTp zln z.2.2.2.2.2.1 z.2.2.2.2.2.2.1 aSz zit zip zic zig z.2.2.2.2.2.2.2 ++ fr)) := by
  refine Ct.of (by decide +kernel) (Nat.le_of_ble_eq_true rfl) trivial ?_
  intro p e s m args below meth c Q A ls F hw hA hE hl
  have hx := F.x
  have hb := F.b
  unfold f_X1_readPeriod at h
  obtain ⟨H, hH⟩ : ∃ H, H = s.heap := ⟨_, rfl⟩
  obtain ⟨locs, hlo⟩ : ∃ locs : List Loc, locs = [] := ⟨_, rfl⟩
  rw [← hH, ← hlo] at hw ⊢
  have hl : lv_has ls 3 [(0, .ref (q 16)), (1, .ref (q (26 + r1)))] := hl
  refine lv_aload_n hx hb dX1_readPeriod_0 rfl (lv_at hl 0 rfl) ?_
  refine lv_dup hx hb dX1_readPeriod_1 rfl ?_
  refine gf_1_42 F hw dX1_readPeriod_2 ?_
  refine lv_iconst (v := 1) hx hb dX1_readPeriod_5 (by decide) ?_
  refine lv_iadd hx hb dX1_readPeriod_6 ?_
  refine pf_1_42 F hw dX1_readPeriod_7 (fun H locs hw => ?_)
  refine lv_aload_n hx hb dX1_readPeriod_10 rfl (lv_at hl 0 rfl) ?_
  obtain ⟨z1, hz1, h⟩ := stB h
  refine ctV (av := []) (st0 := ([] : List Value)) (st1 := ([.int z1] : List Value)) F hw hA (k_X1_letter hz1) kl_1_52 kd_X1_letter rfl ⟨by decide, by decide⟩ 16 rfl rfl hl.1 rfl (Nat.le_of_ble_eq_true rfl) dX1_readPeriod_11 rfl (fun H locs hw => ?_)
  obtain ⟨z2, hz2, h⟩ := stB h
  refine ctS (av := [.int z1]) (st0 := ([] : List Value)) (st1 := ([.int z2] : List Value)) F hw hA (k_X1_isFigure hz2) kl_1_88 kd_X1_isFigure rfl ⟨by decide, by decide⟩ hl.1 rfl (Nat.le_of_ble_eq_true rfl) dX1_readPeriod_14 rfl (fun H locs hw => ?_)
  refine lv_if_ne (tgt := 29) hx hb dX1_readPeriod_17 (by decide) (fun c3 => ?_) (fun c3 => ?_)
  · replace h := stF c3 h
    refine lv_aload_n hx hb dX1_readPeriod_29 rfl (lv_at hl 0 rfl) ?_
    refine lv_iconst (v := 2) hx hb dX1_readPeriod_30 (by decide) ?_
    obtain ⟨z4, hz4, h⟩ := stB h
    refine ctV (av := [.int 2]) (st0 := ([] : List Value)) (st1 := ([.int z4.1] : List Value)) F hw hA (k_X1_readFigures hz4) kl_1_91 kd_X1_readFigures rfl ⟨by decide, by decide⟩ 16 rfl rfl hl.1 rfl (Nat.le_of_ble_eq_true rfl) dX1_readPeriod_31 rfl (fun H locs hw => ?_)
    refine lv_istore_n (lv' := [(2, .int z4.1), (0, .ref (q 16)), (1, .ref (q (26 + r1)))]) hx hb dX1_readPeriod_34 rfl hl (by decide) rfl (fun ls hl => ?_)
    refine lv_iload_n hx hb dX1_readPeriod_35 rfl (lv_at hl 0 rfl) ?_
    refine lv_aload_n hx hb dX1_readPeriod_36 rfl (lv_at hl 1 rfl) ?_
    refine gf_1_26 F hw dX1_readPeriod_37 ?_
    refine gf_1_106 F hw dX1_readPeriod_40 ?_
    refine lv_icmp_lt (tgt := 57) hx hb dX1_readPeriod_43 (by decide) (fun c5 => ?_) (fun c5 => ?_)
    · replace h := stT c5 h
      refine lv_aload_n hx hb dX1_readPeriod_57 rfl (lv_at hl 2 rfl) ?_
      refine lv_iload_n hx hb dX1_readPeriod_58 rfl (lv_at hl 0 rfl) ?_
      obtain ⟨z6, hz6, h⟩ := stB h
      refine ctSN (av := [.ref (q (26 + r1)), .int z4.1]) (st0 := ([] : List Value)) (st1 := ([] : List Value)) (host := RX4) F hw hA (k_X4_setPeriod hr1 hz6) (by decide +kernel) kn_X4_setPeriod ki_4 ks_X4_setPeriod kd_X4_setPeriod rfl ⟨by decide, by decide⟩ hl.1 rfl (Nat.le_of_ble_eq_true rfl) dX1_readPeriod_59 rfl (fun H locs hw => ?_)
      refine lv_iconst (v := 1) hx hb dX1_readPeriod_62 (by decide) ?_
      obtain rfl := Option.some.inj h
      exact hE H locs _ ls hw (Or.inr rfl) dX1_readPeriod_63
    · replace h := stF c5 h
      refine lv_aload_n hx hb dX1_readPeriod_46 rfl (lv_at hl 1 rfl) ?_
      refine lv_aload_n hx hb dX1_readPeriod_47 rfl (lv_at hl 1 rfl) ?_
      refine gf_1_42 F hw dX1_readPeriod_48 ?_
      refine lv_iconst (v := 1) hx hb dX1_readPeriod_51 (by decide) ?_
      refine lv_isub hx hb dX1_readPeriod_52 ?_
      obtain ⟨z7, hz7, h⟩ := stB h
      refine ctV (av := [.int (z4.2 - 1)]) (st0 := ([] : List Value)) (st1 := ([.int z7.1] : List Value)) F hw hA (k_X1_faultAt hz7) kl_1_56 kd_X1_faultAt rfl ⟨by decide, by decide⟩ 16 rfl rfl hl.1 rfl (Nat.le_of_ble_eq_true rfl) dX1_readPeriod_53 rfl (fun H locs hw => ?_)
      obtain ⟨g8, h⟩ := stG h
      obtain rfl := Option.some.inj h
      exact hE H locs _ ls hw g8 dX1_readPeriod_56
  · replace h := stT c3 h
    refine lv_aload_n hx hb dX1_readPeriod_20 rfl (lv_at hl 0 rfl) ?_
    refine lv_aload_n hx hb dX1_readPeriod_21 rfl (lv_at hl 0 rfl) ?_
    refine gf_1_42 F hw dX1_readPeriod_22 ?_
    obtain ⟨z9, hz9, h⟩ := stB h
    refine ctV (av := [.int (zpl + 1)]) (st0 := ([] : List Value)) (st1 := ([.int z9.1] : List Value)) F hw hA (k_X1_faultAt hz9) kl_1_56 kd_X1_faultAt rfl ⟨by decide, by decide⟩ 16 rfl rfl hl.1 rfl (Nat.le_of_ble_eq_true rfl) dX1_readPeriod_25 rfl (fun H locs hw => ?_)
    obtain ⟨g10, h⟩ := stG h
    obtain rfl := Option.some.inj h
    exact hE H locs _ ls hw g10 dX1_readPeriod_28
end
theorem dX1_joinProduct_0 : decode cX1_joinProduct 0 = .ok (.iload_n 1, 1) := by decide +kernel
theorem dX1_joinProduct_1 : decode cX1_joinProduct 1 = .ok (.ifCond .eq 29, 3) := by decide +kernel
theorem dX1_joinProduct_4 : decode cX1_joinProduct 4 = .ok (.aload_n 0, 1) := by decide +kernel
theorem dX1_joinProduct_5 : decode cX1_joinProduct 5 = .ok (.getfield 30, 3) := by decide +kernel
theorem dX1_joinProduct_8 : decode cX1_joinProduct 8 = .ok (.aload_n 0, 1) := by decide +kernel
theorem dX1_joinProduct_9 : decode cX1_joinProduct 9 = .ok (.getfield 17, 3) := by decide +kernel
theorem dX1_joinProduct_12 : decode cX1_joinProduct 12 = .ok (.iload_n 2, 1) := by decide +kernel
theorem dX1_joinProduct_13 : decode cX1_joinProduct 13 = .ok (.aaload, 1) := by decide +kernel
theorem dX1_joinProduct_14 : decode cX1_joinProduct 14 = .ok (.aload_n 0, 1) := by decide +kernel
theorem dX1_joinProduct_15 : decode cX1_joinProduct 15 = .ok (.getfield 20, 3) := by decide +kernel
theorem dX1_joinProduct_18 : decode cX1_joinProduct 18 = .ok (.iload_n 2, 1) := by decide +kernel
theorem dX1_joinProduct_19 : decode cX1_joinProduct 19 = .ok (.aaload, 1) := by decide +kernel
theorem dX1_joinProduct_20 : decode cX1_joinProduct 20 = .ok (.aload_n 0, 1) := by decide +kernel
theorem dX1_joinProduct_21 : decode cX1_joinProduct 21 = .ok (.getfield 17, 3) := by decide +kernel
theorem dX1_joinProduct_24 : decode cX1_joinProduct 24 = .ok (.iload_n 2, 1) := by decide +kernel
theorem dX1_joinProduct_25 : decode cX1_joinProduct 25 = .ok (.aaload, 1) := by decide +kernel
theorem dX1_joinProduct_26 : decode cX1_joinProduct 26 = .ok (.invokevirtual 73, 3) := by decide +kernel
theorem dX1_joinProduct_29 : decode cX1_joinProduct 29 = .ok (.ireturn, 1) := by decide +kernel
theorem dX1_joinProduct_30 : decode cX1_joinProduct 30 = .ok (.aload_n 0, 1) := by decide +kernel
theorem dX1_joinProduct_31 : decode cX1_joinProduct 31 = .ok (.getfield 30, 3) := by decide +kernel
theorem dX1_joinProduct_34 : decode cX1_joinProduct 34 = .ok (.aload_n 0, 1) := by decide +kernel
theorem dX1_joinProduct_35 : decode cX1_joinProduct 35 = .ok (.getfield 17, 3) := by decide +kernel
theorem dX1_joinProduct_38 : decode cX1_joinProduct 38 = .ok (.iload_n 2, 1) := by decide +kernel
theorem dX1_joinProduct_39 : decode cX1_joinProduct 39 = .ok (.aaload, 1) := by decide +kernel
theorem dX1_joinProduct_40 : decode cX1_joinProduct 40 = .ok (.aload_n 0, 1) := by decide +kernel
theorem dX1_joinProduct_41 : decode cX1_joinProduct 41 = .ok (.getfield 20, 3) := by decide +kernel
theorem dX1_joinProduct_44 : decode cX1_joinProduct 44 = .ok (.iload_n 2, 1) := by decide +kernel
theorem dX1_joinProduct_45 : decode cX1_joinProduct 45 = .ok (.aaload, 1) := by decide +kernel
theorem dX1_joinProduct_46 : decode cX1_joinProduct 46 = .ok (.aload_n 0, 1) := by decide +kernel
theorem dX1_joinProduct_47 : decode cX1_joinProduct 47 = .ok (.getfield 17, 3) := by decide +kernel
theorem dX1_joinProduct_50 : decode cX1_joinProduct 50 = .ok (.iload_n 2, 1) := by decide +kernel
theorem dX1_joinProduct_51 : decode cX1_joinProduct 51 = .ok (.aaload, 1) := by decide +kernel
theorem dX1_joinProduct_52 : decode cX1_joinProduct 52 = .ok (.invokevirtual 79, 3) := by decide +kernel
theorem dX1_joinProduct_55 : decode cX1_joinProduct 55 = .ok (.ireturn, 1) := by decide +kernel
section
variable {p : Program} {l : Launch} {e : Env} {s : State} {m : MethodId} {args : Array Value} {below : List Frame} {meth : Method} {c : Code} {Q : State → Prop} {G : GG} {A : Nat → Prop} {q : Nat → Nat} {fr : va_W}
def f_X1_joinProduct (ze : Int32) (ztc : Int32) (aTs : Nat → Int32) (aTn : Nat → Int32) (zoc : Int32) (aOs : Nat → Int32) (aOn : Nat → Int32) (M : Nat → Nat → Int64) (v1 : Int32) (v2 : Int32) : Option (Int32 × Int32 × (Nat → Int32) × (Nat → Int32) × Int32 × (Nat → Nat → Int64)) :=
  if v1 = 0 then
  if inb v2 6 then
  if inb v2 6 then
  if inb v2 6 then
  (f_X2_difference ze ztc aTs aTn zoc aOs aOn M (11 + v2.toNatClampNeg) (17 + v2.toNatClampNeg) (11 + v2.toNatClampNeg)).bind fun z5 =>
  if z5.1 = 0 ∨ z5.1 = 1 then
  some (z5.1, z5.2.1, z5.2.2.1, z5.2.2.2.1, z5.2.2.2.2.1, z5.2.2.2.2.2)
  else none
  else none
  else none
  else none
  else
  if inb v2 6 then
  if inb v2 6 then
  if inb v2 6 then
  (f_X2_sum ze ztc aTs aTn zoc aOs aOn M (11 + v2.toNatClampNeg) (17 + v2.toNatClampNeg) (11 + v2.toNatClampNeg)).bind fun z10 =>
  if z10.1 = 0 ∨ z10.1 = 1 then
  some (z10.1, z10.2.1, z10.2.2.1, z10.2.2.2.1, z10.2.2.2.2.1, z10.2.2.2.2.2)
  else none
  else none
  else none
  else none
set_option maxHeartbeats 4000000 in
set_option maxRecDepth 100000 in
theorem k_X1_joinProduct {l : Launch} {G : GG} {q : Nat → Nat} {fr : va_W}  {zp : Int32} {ze : Int32} {zf : Int32} {zg : Int32} {zn : Int32} {aG : Nat → Int32} {aW : Nat → Int32} {aR : Nat → Int32} {aN : Nat → Int32} {aF : Nat → Int32} {lC : Nat → Int64} {lS : Nat → Int64} {lP : Nat → Int64} {lX : Nat → Int64} {ztc : Int32} {aTs : Nat → Int32} {aTn : Nat → Int32} {zoc : Int32} {aOs : Nat → Int32} {aOn : Nat → Int32} {aTp : Nat → Int32} {zln : Int32} {zpl : Int32} {zfa : Int32} {aSz : Nat → Int32} {zit : Int32} {zip : Int32} {zic : Int32} {zig : Int32} {M : Nat → Nat → Int64} {v1 : Int32} {v2 : Int32} {z : Int32 × Int32 × (Nat → Int32) × (Nat → Int32) × Int32 × (Nat → Nat → Int64)}  (h : f_X1_joinProduct ze ztc aTs aTn zoc aOs aOn M v1 v2 = some z) : Ct l G yX1_joinProduct cX1_joinProduct 3 (some .boolean) 2 49 [.ref (q 16), .int v1, .int v2] (kW G q zp ze zf zg zn aG aW aR aN aF lC lS lP lX ++ (oW G q ztc aTs aTn zoc aOs aOn aTp zln zpl zfa aSz zit zip zic zig M ++ fr)) (some (.int z.1)) (kW G q zp ze zf zg zn aG aW aR aN aF lC lS lP lX ++ (oW G q z.2.1 z.2.2.1 z.2.2.2.1 z.2.2.2.2.1 aOs aOn aTp zln zpl zfa aSz zit zip zic zig z.2.2.2.2.2 ++ fr)) := by
  refine Ct.of (by decide +kernel) (Nat.le_of_ble_eq_true rfl) trivial ?_
  intro p e s m args below meth c Q A ls F hw hA hE hl
  have hx := F.x
  have hb := F.b
  unfold f_X1_joinProduct at h
  obtain ⟨H, hH⟩ : ∃ H, H = s.heap := ⟨_, rfl⟩
  obtain ⟨locs, hlo⟩ : ∃ locs : List Loc, locs = [] := ⟨_, rfl⟩
  rw [← hH, ← hlo] at hw ⊢
  have hl : lv_has ls 3 [(0, .ref (q 16)), (1, .int v1), (2, .int v2)] := hl
  refine lv_iload_n hx hb dX1_joinProduct_0 rfl (lv_at hl 1 rfl) ?_
  refine lv_if_eq (tgt := 30) hx hb dX1_joinProduct_1 (by decide) (fun c1 => ?_) (fun c1 => ?_)
  · replace h := stT c1 h
    refine lv_aload_n hx hb dX1_joinProduct_30 rfl (lv_at hl 0 rfl) ?_
    refine gf_1_30 F hw dX1_joinProduct_31 ?_
    refine lv_aload_n hx hb dX1_joinProduct_34 rfl (lv_at hl 0 rfl) ?_
    refine gf_1_17 F hw dX1_joinProduct_35 ?_
    refine lv_iload_n hx hb dX1_joinProduct_38 rfl (lv_at hl 2 rfl) ?_
    obtain ⟨g2, h⟩ := stG h
    refine aq_c18 F hw g2 dX1_joinProduct_39 ?_
    refine lv_aload_n hx hb dX1_joinProduct_40 rfl (lv_at hl 0 rfl) ?_
    refine gf_1_20 F hw dX1_joinProduct_41 ?_
    refine lv_iload_n hx hb dX1_joinProduct_44 rfl (lv_at hl 2 rfl) ?_
    obtain ⟨g3, h⟩ := stG h
    refine aq_c19 F hw g3 dX1_joinProduct_45 ?_
    refine lv_aload_n hx hb dX1_joinProduct_46 rfl (lv_at hl 0 rfl) ?_
    refine gf_1_17 F hw dX1_joinProduct_47 ?_
    refine lv_iload_n hx hb dX1_joinProduct_50 rfl (lv_at hl 2 rfl) ?_
    obtain ⟨g4, h⟩ := stG h
    refine aq_c18 F hw g4 dX1_joinProduct_51 ?_
    obtain ⟨z5, hz5, h⟩ := stB h
    refine ctV (av := [.ref (q (26 + (11 + v2.toNatClampNeg))), .ref (q (26 + (17 + v2.toNatClampNeg))), .ref (q (26 + (11 + v2.toNatClampNeg)))]) (st0 := ([] : List Value)) (st1 := ([.int z5.1] : List Value)) F hw hA (k_X2_difference (Nat.lt_of_lt_of_le (Nat.add_lt_add_left (inb_lt g2) 11) (by decide)) (Nat.lt_of_lt_of_le (Nat.add_lt_add_left (inb_lt g3) 17) (by decide)) (Nat.lt_of_lt_of_le (Nat.add_lt_add_left (inb_lt g4) 11) (by decide)) hz5) kl_1_79 kd_X2_difference rfl ⟨by decide, by decide⟩ 15 rfl rfl hl.1 rfl (Nat.le_of_ble_eq_true rfl) dX1_joinProduct_52 rfl (fun H locs hw => ?_)
    obtain ⟨g6, h⟩ := stG h
    obtain rfl := Option.some.inj h
    exact hE H locs _ ls hw g6 dX1_joinProduct_55
  · replace h := stF c1 h
    refine lv_aload_n hx hb dX1_joinProduct_4 rfl (lv_at hl 0 rfl) ?_
    refine gf_1_30 F hw dX1_joinProduct_5 ?_
    refine lv_aload_n hx hb dX1_joinProduct_8 rfl (lv_at hl 0 rfl) ?_
    refine gf_1_17 F hw dX1_joinProduct_9 ?_
    refine lv_iload_n hx hb dX1_joinProduct_12 rfl (lv_at hl 2 rfl) ?_
    obtain ⟨g7, h⟩ := stG h
    refine aq_c18 F hw g7 dX1_joinProduct_13 ?_
    refine lv_aload_n hx hb dX1_joinProduct_14 rfl (lv_at hl 0 rfl) ?_
    refine gf_1_20 F hw dX1_joinProduct_15 ?_
    refine lv_iload_n hx hb dX1_joinProduct_18 rfl (lv_at hl 2 rfl) ?_
    obtain ⟨g8, h⟩ := stG h
    refine aq_c19 F hw g8 dX1_joinProduct_19 ?_
    refine lv_aload_n hx hb dX1_joinProduct_20 rfl (lv_at hl 0 rfl) ?_
    refine gf_1_17 F hw dX1_joinProduct_21 ?_
    refine lv_iload_n hx hb dX1_joinProduct_24 rfl (lv_at hl 2 rfl) ?_
    obtain ⟨g9, h⟩ := stG h
    refine aq_c18 F hw g9 dX1_joinProduct_25 ?_
    obtain ⟨z10, hz10, h⟩ := stB h
    refine ctV (av := [.ref (q (26 + (11 + v2.toNatClampNeg))), .ref (q (26 + (17 + v2.toNatClampNeg))), .ref (q (26 + (11 + v2.toNatClampNeg)))]) (st0 := ([] : List Value)) (st1 := ([.int z10.1] : List Value)) F hw hA (k_X2_sum (Nat.lt_of_lt_of_le (Nat.add_lt_add_left (inb_lt g7) 11) (by decide)) (Nat.lt_of_lt_of_le (Nat.add_lt_add_left (inb_lt g8) 17) (by decide)) (Nat.lt_of_lt_of_le (Nat.add_lt_add_left (inb_lt g9) 11) (by decide)) hz10) kl_1_73 kd_X2_sum rfl ⟨by decide, by decide⟩ 15 rfl rfl hl.1 rfl (Nat.le_of_ble_eq_true rfl) dX1_joinProduct_26 rfl (fun H locs hw => ?_)
    obtain ⟨g11, h⟩ := stG h
    obtain rfl := Option.some.inj h
    exact hE H locs _ ls hw g11 dX1_joinProduct_29
end
theorem dX1_readBracket_0 : decode cX1_readBracket 0 = .ok (.aload_n 0, 1) := by decide +kernel
theorem dX1_readBracket_1 : decode cX1_readBracket 1 = .ok (.getfield 34, 3) := by decide +kernel
theorem dX1_readBracket_4 : decode cX1_readBracket 4 = .ok (.bipush 6, 2) := by decide +kernel
theorem dX1_readBracket_6 : decode cX1_readBracket 6 = .ok (.aload_n 0, 1) := by decide +kernel
theorem dX1_readBracket_7 : decode cX1_readBracket 7 = .ok (.getfield 42, 3) := by decide +kernel
theorem dX1_readBracket_10 : decode cX1_readBracket 10 = .ok (.invokevirtual 114, 3) := by decide +kernel
theorem dX1_readBracket_13 : decode cX1_readBracket 13 = .ok (.aload_n 0, 1) := by decide +kernel
theorem dX1_readBracket_14 : decode cX1_readBracket 14 = .ok (.dup, 1) := by decide +kernel
theorem dX1_readBracket_15 : decode cX1_readBracket 15 = .ok (.getfield 42, 3) := by decide +kernel
theorem dX1_readBracket_18 : decode cX1_readBracket 18 = .ok (.iconst 1, 1) := by decide +kernel
theorem dX1_readBracket_19 : decode cX1_readBracket 19 = .ok (.iadd, 1) := by decide +kernel
theorem dX1_readBracket_20 : decode cX1_readBracket 20 = .ok (.putfield 42, 3) := by decide +kernel
theorem dX1_readBracket_23 : decode cX1_readBracket 23 = .ok (.aload_n 0, 1) := by decide +kernel
theorem dX1_readBracket_24 : decode cX1_readBracket 24 = .ok (.iload_n 1, 1) := by decide +kernel
theorem dX1_readBracket_25 : decode cX1_readBracket 25 = .ok (.iconst 1, 1) := by decide +kernel
theorem dX1_readBracket_26 : decode cX1_readBracket 26 = .ok (.iadd, 1) := by decide +kernel
theorem dX1_readBracket_27 : decode cX1_readBracket 27 = .ok (.invokevirtual 48, 3) := by decide +kernel
theorem dX1_readBracket_30 : decode cX1_readBracket 30 = .ok (.ifCond .ne 5, 3) := by decide +kernel
theorem dX1_readBracket_33 : decode cX1_readBracket 33 = .ok (.iconst 0, 1) := by decide +kernel
theorem dX1_readBracket_34 : decode cX1_readBracket 34 = .ok (.ireturn, 1) := by decide +kernel
theorem dX1_readBracket_35 : decode cX1_readBracket 35 = .ok (.aload_n 0, 1) := by decide +kernel
theorem dX1_readBracket_36 : decode cX1_readBracket 36 = .ok (.invokevirtual 52, 3) := by decide +kernel
theorem dX1_readBracket_39 : decode cX1_readBracket 39 = .ok (.bipush 41, 2) := by decide +kernel
theorem dX1_readBracket_41 : decode cX1_readBracket 41 = .ok (.if_icmp .eq 12, 3) := by decide +kernel
theorem dX1_readBracket_44 : decode cX1_readBracket 44 = .ok (.aload_n 0, 1) := by decide +kernel
theorem dX1_readBracket_45 : decode cX1_readBracket 45 = .ok (.aload_n 0, 1) := by decide +kernel
theorem dX1_readBracket_46 : decode cX1_readBracket 46 = .ok (.getfield 42, 3) := by decide +kernel
theorem dX1_readBracket_49 : decode cX1_readBracket 49 = .ok (.invokevirtual 56, 3) := by decide +kernel
theorem dX1_readBracket_52 : decode cX1_readBracket 52 = .ok (.ireturn, 1) := by decide +kernel
theorem dX1_readBracket_53 : decode cX1_readBracket 53 = .ok (.aload_n 0, 1) := by decide +kernel
theorem dX1_readBracket_54 : decode cX1_readBracket 54 = .ok (.dup, 1) := by decide +kernel
theorem dX1_readBracket_55 : decode cX1_readBracket 55 = .ok (.getfield 42, 3) := by decide +kernel
theorem dX1_readBracket_58 : decode cX1_readBracket 58 = .ok (.iconst 1, 1) := by decide +kernel
theorem dX1_readBracket_59 : decode cX1_readBracket 59 = .ok (.iadd, 1) := by decide +kernel
theorem dX1_readBracket_60 : decode cX1_readBracket 60 = .ok (.putfield 42, 3) := by decide +kernel
theorem dX1_readBracket_63 : decode cX1_readBracket 63 = .ok (.aload_n 0, 1) := by decide +kernel
theorem dX1_readBracket_64 : decode cX1_readBracket 64 = .ok (.getfield 34, 3) := by decide +kernel
theorem dX1_readBracket_67 : decode cX1_readBracket 67 = .ok (.invokevirtual 120, 3) := by decide +kernel
theorem dX1_readBracket_70 : decode cX1_readBracket 70 = .ok (.aload_n 0, 1) := by decide +kernel
theorem dX1_readBracket_71 : decode cX1_readBracket 71 = .ok (.getfield 17, 3) := by decide +kernel
theorem dX1_readBracket_74 : decode cX1_readBracket 74 = .ok (.iload_n 1, 1) := by decide +kernel
theorem dX1_readBracket_75 : decode cX1_readBracket 75 = .ok (.iconst 1, 1) := by decide +kernel
theorem dX1_readBracket_76 : decode cX1_readBracket 76 = .ok (.iadd, 1) := by decide +kernel
theorem dX1_readBracket_77 : decode cX1_readBracket 77 = .ok (.aaload, 1) := by decide +kernel
theorem dX1_readBracket_78 : decode cX1_readBracket 78 = .ok (.aload_n 0, 1) := by decide +kernel
theorem dX1_readBracket_79 : decode cX1_readBracket 79 = .ok (.getfield 23, 3) := by decide +kernel
theorem dX1_readBracket_82 : decode cX1_readBracket 82 = .ok (.iload_n 1, 1) := by decide +kernel
theorem dX1_readBracket_83 : decode cX1_readBracket 83 = .ok (.aaload, 1) := by decide +kernel
theorem dX1_readBracket_84 : decode cX1_readBracket 84 = .ok (.invokestatic 59, 3) := by decide +kernel
theorem dX1_readBracket_87 : decode cX1_readBracket 87 = .ok (.iconst 1, 1) := by decide +kernel
theorem dX1_readBracket_88 : decode cX1_readBracket 88 = .ok (.ireturn, 1) := by decide +kernel
section
variable {p : Program} {l : Launch} {e : Env} {s : State} {m : MethodId} {args : Array Value} {below : List Frame} {meth : Method} {c : Code} {Q : State → Prop} {G : GG} {A : Nat → Prop} {q : Nat → Nat} {fr : va_W}
def f_X1_readBracket (RS : Int32 → (Nat → Int32) → Int32 → (Nat → Int32) → (Nat → Int32) → Int32 → (Nat → Int32) → (Nat → Int32) → (Nat → Int32) → Int32 → Int32 → Int32 → (Nat → Nat → Int64) → Int32 → Option (Int32 × Int32 × (Nat → Int32) × (Nat → Int32) × Int32 × (Nat → Int32) × (Nat → Int32) × Int32 × Int32 × (Nat → Nat → Int64))) (ze : Int32) (aF : Nat → Int32) (ztc : Int32) (aTs : Nat → Int32) (aTn : Nat → Int32) (zoc : Int32) (aOs : Nat → Int32) (aOn : Nat → Int32) (aTp : Nat → Int32) (zln : Int32) (zpl : Int32) (zfa : Int32) (M : Nat → Nat → Int64) (v1 : Int32) : Option (Int32 × Int32 × (Nat → Int32) × (Nat → Int32) × Int32 × (Nat → Int32) × (Nat → Int32) × Int32 × Int32 × (Nat → Nat → Int64)) :=
  (f_X3_enter zoc aOs aOn 6 zpl).bind fun z1 =>
  (RS ze aF ztc aTs aTn z1.1 z1.2.1 z1.2.2 aTp zln (zpl + 1) zfa M (v1 + 1)).bind fun z2 =>
  if z2.1 = 0 then
  some (0, z2.2.1, z2.2.2.1, z2.2.2.2.1, z2.2.2.2.2.1, z2.2.2.2.2.2.1, z2.2.2.2.2.2.2.1, z2.2.2.2.2.2.2.2.1, z2.2.2.2.2.2.2.2.2.1, z2.2.2.2.2.2.2.2.2.2)
  else
  (f_X1_letter aTp zln z2.2.2.2.2.2.2.2.1).bind fun z4 =>
  if z4 = 41 then
  (f_X3_leave z2.2.2.2.2.1).bind fun z6 =>
  if inb (v1 + 1) 6 then
  if inb v1 6 then
  (f_X4_copyRow z2.2.2.2.2.2.2.2.2.2 (11 + (v1 + 1).toNatClampNeg) (23 + v1.toNatClampNeg)).bind fun z9 =>
  some (1, z2.2.1, z2.2.2.1, z2.2.2.2.1, z6, z2.2.2.2.2.2.1, z2.2.2.2.2.2.2.1, (z2.2.2.2.2.2.2.2.1 + 1), z2.2.2.2.2.2.2.2.2.1, z9)
  else none
  else none
  else
  (f_X1_faultAt z2.2.1 z2.2.2.1 z2.2.2.2.1 z2.2.2.2.2.1 z2.2.2.2.2.2.1 z2.2.2.2.2.2.2.1 z2.2.2.2.2.2.2.2.2.1 z2.2.2.2.2.2.2.2.1).bind fun z10 =>
  if z10.1 = 0 ∨ z10.1 = 1 then
  some (z10.1, z10.2.1, z10.2.2.1, z10.2.2.2.1, z10.2.2.2.2.1, z2.2.2.2.2.2.1, z2.2.2.2.2.2.2.1, z2.2.2.2.2.2.2.2.1, z10.2.2.2.2.2, z2.2.2.2.2.2.2.2.2.2)
  else none
set_option maxHeartbeats 4000000 in
set_option maxRecDepth 100000 in
theorem k_X1_readBracket {l : Launch} {G : GG} {q : Nat → Nat} {fr : va_W} {d : Nat} {RS : Int32 → (Nat → Int32) → Int32 → (Nat → Int32) → (Nat → Int32) → Int32 → (Nat → Int32) → (Nat → Int32) → (Nat → Int32) → Int32 → Int32 → Int32 → (Nat → Nat → Int64) → Int32 → Option (Int32 × Int32 × (Nat → Int32) × (Nat → Int32) × Int32 × (Nat → Int32) × (Nat → Int32) × Int32 × Int32 × (Nat → Nat → Int64))} {zp : Int32} {ze : Int32} {zf : Int32} {zg : Int32} {zn : Int32} {aG : Nat → Int32} {aW : Nat → Int32} {aR : Nat → Int32} {aN : Nat → Int32} {aF : Nat → Int32} {lC : Nat → Int64} {lS : Nat → Int64} {lP : Nat → Int64} {lX : Nat → Int64} {ztc : Int32} {aTs : Nat → Int32} {aTn : Nat → Int32} {zoc : Int32} {aOs : Nat → Int32} {aOn : Nat → Int32} {aTp : Nat → Int32} {zln : Int32} {zpl : Int32} {zfa : Int32} {aSz : Nat → Int32} {zit : Int32} {zip : Int32} {zic : Int32} {zig : Int32} {M : Nat → Nat → Int64} {v1 : Int32} {z : Int32 × Int32 × (Nat → Int32) × (Nat → Int32) × Int32 × (Nat → Int32) × (Nat → Int32) × Int32 × Int32 × (Nat → Nat → Int64)} (hRS : ∀ (fr : va_W) (zp : Int32) (ze : Int32) (zf : Int32) (zg : Int32) (zn : Int32) (aG : Nat → Int32) (aW : Nat → Int32) (aR : Nat → Int32) (aN : Nat → Int32) (aF : Nat → Int32) (lC : Nat → Int64) (lS : Nat → Int64) (lP : Nat → Int64) (lX : Nat → Int64) (ztc : Int32) (aTs : Nat → Int32) (aTn : Nat → Int32) (zoc : Int32) (aOs : Nat → Int32) (aOn : Nat → Int32) (aTp : Nat → Int32) (zln : Int32) (zpl : Int32) (zfa : Int32) (aSz : Nat → Int32) (zit : Int32) (zip : Int32) (zic : Int32) (zig : Int32) (M : Nat → Nat → Int64) (v1 : Int32) (z : Int32 × Int32 × (Nat → Int32) × (Nat → Int32) × Int32 × (Nat → Int32) × (Nat → Int32) × Int32 × Int32 × (Nat → Nat → Int64)), RS ze aF ztc aTs aTn zoc aOs aOn aTp zln zpl zfa M v1 = some z → Ct l G yX1_readSum cX1_readSum 4 (some .boolean) (20 + 4 * d) (600 + 87 * d) [.ref (q 16), .int v1] (kW G q zp ze zf zg zn aG aW aR aN aF lC lS lP lX ++ (oW G q ztc aTs aTn zoc aOs aOn aTp zln zpl zfa aSz zit zip zic zig M ++ fr)) (some (.int z.1)) (kW G q zp ze zf zg zn aG aW aR aN aF lC lS lP lX ++ (oW G q z.2.1 z.2.2.1 z.2.2.2.1 z.2.2.2.2.1 z.2.2.2.2.2.1 z.2.2.2.2.2.2.1 aTp zln z.2.2.2.2.2.2.2.1 z.2.2.2.2.2.2.2.2.1 aSz zit zip zic zig z.2.2.2.2.2.2.2.2.2 ++ fr))) (h : f_X1_readBracket RS ze aF ztc aTs aTn zoc aOs aOn aTp zln zpl zfa M v1 = some z) : Ct l G yX1_readBracket cX1_readBracket 2 (some .boolean) (20 + 4 * d + 1) (600 + 87 * d + 23) [.ref (q 16), .int v1] (kW G q zp ze zf zg zn aG aW aR aN aF lC lS lP lX ++ (oW G q ztc aTs aTn zoc aOs aOn aTp zln zpl zfa aSz zit zip zic zig M ++ fr)) (some (.int z.1)) (kW G q zp ze zf zg zn aG aW aR aN aF lC lS lP lX ++ (oW G q z.2.1 z.2.2.1 z.2.2.2.1 z.2.2.2.2.1 z.2.2.2.2.2.1 z.2.2.2.2.2.2.1 aTp zln z.2.2.2.2.2.2.2.1 z.2.2.2.2.2.2.2.2.1 aSz zit zip zic zig z.2.2.2.2.2.2.2.2.2 ++ fr)) := by
  refine Ct.of (by decide +kernel) (Nat.le_of_ble_eq_true rfl) trivial ?_
  intro p e s m args below meth c Q A ls F hw hA hE hl
  have hx := F.x
  have hb := F.b
  unfold f_X1_readBracket at h
  obtain ⟨H, hH⟩ : ∃ H, H = s.heap := ⟨_, rfl⟩
  obtain ⟨locs, hlo⟩ : ∃ locs : List Loc, locs = [] := ⟨_, rfl⟩
  rw [← hH, ← hlo] at hw ⊢
  have hl : lv_has ls 2 [(0, .ref (q 16)), (1, .int v1)] := hl
  refine lv_aload_n hx hb dX1_readBracket_0 rfl (lv_at hl 0 rfl) ?_
  refine gf_1_34 F hw dX1_readBracket_1 ?_
  refine lv_bipush (v := 6) hx hb dX1_readBracket_4 (by decide) ?_
  refine lv_aload_n hx hb dX1_readBracket_6 rfl (lv_at hl 0 rfl) ?_
  refine gf_1_42 F hw dX1_readBracket_7 ?_
  obtain ⟨z1, hz1, h⟩ := stB h
  refine ctV (av := [.int 6, .int zpl]) (st0 := ([] : List Value)) (st1 := ([] : List Value)) F hw hA (k_X3_enter hz1) kl_1_114 kd_X3_enter rfl ⟨by omega, by omega⟩ 10 rfl rfl hl.1 rfl (Nat.le_of_ble_eq_true rfl) dX1_readBracket_10 rfl (fun H locs hw => ?_)
  refine lv_aload_n hx hb dX1_readBracket_13 rfl (lv_at hl 0 rfl) ?_
  refine lv_dup hx hb dX1_readBracket_14 rfl ?_
  refine gf_1_42 F hw dX1_readBracket_15 ?_
  refine lv_iconst (v := 1) hx hb dX1_readBracket_18 (by decide) ?_
  refine lv_iadd hx hb dX1_readBracket_19 ?_
  refine pf_1_42 F hw dX1_readBracket_20 (fun H locs hw => ?_)
  refine lv_aload_n hx hb dX1_readBracket_23 rfl (lv_at hl 0 rfl) ?_
  refine lv_iload_n hx hb dX1_readBracket_24 rfl (lv_at hl 1 rfl) ?_
  refine lv_iconst (v := 1) hx hb dX1_readBracket_25 (by decide) ?_
  refine lv_iadd hx hb dX1_readBracket_26 ?_
  obtain ⟨z2, hz2, h⟩ := stB h
  refine ctV (av := [.int (v1 + 1)]) (st0 := ([] : List Value)) (st1 := ([.int z2.1] : List Value)) F hw hA (hRS _ _ _ _ _ _ _ _ _ _ _ _ _ _ _ _ _ _ _ _ _ _ _ _ _ _ _ _ _ _ _ _ _ hz2) kl_1_48 kd_X1_readSum rfl ⟨by omega, by omega⟩ 16 rfl rfl hl.1 rfl (Nat.le_of_ble_eq_true rfl) dX1_readBracket_27 rfl (fun H locs hw => ?_)
  refine lv_if_ne (tgt := 35) hx hb dX1_readBracket_30 (by decide) (fun c3 => ?_) (fun c3 => ?_)
  · replace h := stF c3 h
    refine lv_aload_n hx hb dX1_readBracket_35 rfl (lv_at hl 0 rfl) ?_
    obtain ⟨z4, hz4, h⟩ := stB h
    refine ctV (av := []) (st0 := ([] : List Value)) (st1 := ([.int z4] : List Value)) F hw hA (k_X1_letter hz4) kl_1_52 kd_X1_letter rfl ⟨by omega, by omega⟩ 16 rfl rfl hl.1 rfl (Nat.le_of_ble_eq_true rfl) dX1_readBracket_36 rfl (fun H locs hw => ?_)
    refine lv_bipush (v := 41) hx hb dX1_readBracket_39 (by decide) ?_
    refine lv_icmp_eq (tgt := 53) hx hb dX1_readBracket_41 (by decide) (fun c5 => ?_) (fun c5 => ?_)
    · replace h := stT c5 h
      refine lv_aload_n hx hb dX1_readBracket_53 rfl (lv_at hl 0 rfl) ?_
      refine lv_dup hx hb dX1_readBracket_54 rfl ?_
      refine gf_1_42 F hw dX1_readBracket_55 ?_
      refine lv_iconst (v := 1) hx hb dX1_readBracket_58 (by decide) ?_
      refine lv_iadd hx hb dX1_readBracket_59 ?_
      refine pf_1_42 F hw dX1_readBracket_60 (fun H locs hw => ?_)
      refine lv_aload_n hx hb dX1_readBracket_63 rfl (lv_at hl 0 rfl) ?_
      refine gf_1_34 F hw dX1_readBracket_64 ?_
      obtain ⟨z6, hz6, h⟩ := stB h
      refine ctV (av := []) (st0 := ([] : List Value)) (st1 := ([] : List Value)) F hw hA (k_X3_leave hz6) kl_1_120 kd_X3_leave rfl ⟨by omega, by omega⟩ 10 rfl rfl hl.1 rfl (Nat.le_of_ble_eq_true rfl) dX1_readBracket_67 rfl (fun H locs hw => ?_)
      refine lv_aload_n hx hb dX1_readBracket_70 rfl (lv_at hl 0 rfl) ?_
      refine gf_1_17 F hw dX1_readBracket_71 ?_
      refine lv_iload_n hx hb dX1_readBracket_74 rfl (lv_at hl 1 rfl) ?_
      refine lv_iconst (v := 1) hx hb dX1_readBracket_75 (by decide) ?_
      refine lv_iadd hx hb dX1_readBracket_76 ?_
      obtain ⟨g7, h⟩ := stG h
      refine aq_c18 F hw g7 dX1_readBracket_77 ?_
      refine lv_aload_n hx hb dX1_readBracket_78 rfl (lv_at hl 0 rfl) ?_
      refine gf_1_23 F hw dX1_readBracket_79 ?_
      refine lv_iload_n hx hb dX1_readBracket_82 rfl (lv_at hl 1 rfl) ?_
      obtain ⟨g8, h⟩ := stG h
      refine aq_c20 F hw g8 dX1_readBracket_83 ?_
      obtain ⟨z9, hz9, h⟩ := stB h
      refine ctSN (av := [.ref (q (26 + (11 + (v1 + 1).toNatClampNeg))), .ref (q (26 + (23 + v1.toNatClampNeg)))]) (st0 := ([] : List Value)) (st1 := ([] : List Value)) (host := RX4) F hw hA (k_X4_copyRow (Nat.lt_of_lt_of_le (Nat.add_lt_add_left (inb_lt g7) 11) (by decide)) (Nat.lt_of_lt_of_le (Nat.add_lt_add_left (inb_lt g8) 23) (by decide)) hz9) (by decide +kernel) kn_X4_copyRow ki_4 ks_X4_copyRow kd_X4_copyRow rfl ⟨by omega, by omega⟩ hl.1 rfl (Nat.le_of_ble_eq_true rfl) dX1_readBracket_84 rfl (fun H locs hw => ?_)
      refine lv_iconst (v := 1) hx hb dX1_readBracket_87 (by decide) ?_
      obtain rfl := Option.some.inj h
      exact hE H locs _ ls hw (Or.inr rfl) dX1_readBracket_88
    · replace h := stF c5 h
      refine lv_aload_n hx hb dX1_readBracket_44 rfl (lv_at hl 0 rfl) ?_
      refine lv_aload_n hx hb dX1_readBracket_45 rfl (lv_at hl 0 rfl) ?_
      refine gf_1_42 F hw dX1_readBracket_46 ?_
      obtain ⟨z10, hz10, h⟩ := stB h
      refine ctV (av := [.int z2.2.2.2.2.2.2.2.1]) (st0 := ([] : List Value)) (st1 := ([.int z10.1] : List Value)) F hw hA (k_X1_faultAt hz10) kl_1_56 kd_X1_faultAt rfl ⟨by omega, by omega⟩ 16 rfl rfl hl.1 rfl (Nat.le_of_ble_eq_true rfl) dX1_readBracket_49 rfl (fun H locs hw => ?_)
      obtain ⟨g11, h⟩ := stG h
      obtain rfl := Option.some.inj h
      exact hE H locs _ ls hw g11 dX1_readBracket_52
  · replace h := stT c3 h
    refine lv_iconst (v := 0) hx hb dX1_readBracket_33 (by decide) ?_
    obtain rfl := Option.some.inj h
    exact hE H locs _ ls hw (Or.inl rfl) dX1_readBracket_34
end
theorem dX1_readPart_0 : decode cX1_readPart 0 = .ok (.aload_n 0, 1) := by decide +kernel
theorem dX1_readPart_1 : decode cX1_readPart 1 = .ok (.invokevirtual 52, 3) := by decide +kernel
theorem dX1_readPart_4 : decode cX1_readPart 4 = .ok (.invokestatic 88, 3) := by decide +kernel
theorem dX1_readPart_7 : decode cX1_readPart 7 = .ok (.ifCond .eq 19, 3) := by decide +kernel
theorem dX1_readPart_10 : decode cX1_readPart 10 = .ok (.aload_n 0, 1) := by decide +kernel
theorem dX1_readPart_11 : decode cX1_readPart 11 = .ok (.getfield 23, 3) := by decide +kernel
theorem dX1_readPart_14 : decode cX1_readPart 14 = .ok (.iload_n 1, 1) := by decide +kernel
theorem dX1_readPart_15 : decode cX1_readPart 15 = .ok (.aaload, 1) := by decide +kernel
theorem dX1_readPart_16 : decode cX1_readPart 16 = .ok (.aload_n 0, 1) := by decide +kernel
theorem dX1_readPart_17 : decode cX1_readPart 17 = .ok (.iconst 3, 1) := by decide +kernel
theorem dX1_readPart_18 : decode cX1_readPart 18 = .ok (.invokevirtual 91, 3) := by decide +kernel
theorem dX1_readPart_21 : decode cX1_readPart 21 = .ok (.invokestatic 95, 3) := by decide +kernel
theorem dX1_readPart_24 : decode cX1_readPart 24 = .ok (.iconst 1, 1) := by decide +kernel
theorem dX1_readPart_25 : decode cX1_readPart 25 = .ok (.ireturn, 1) := by decide +kernel
theorem dX1_readPart_26 : decode cX1_readPart 26 = .ok (.aload_n 0, 1) := by decide +kernel
theorem dX1_readPart_27 : decode cX1_readPart 27 = .ok (.invokevirtual 52, 3) := by decide +kernel
theorem dX1_readPart_30 : decode cX1_readPart 30 = .ok (.bipush 110, 2) := by decide +kernel
theorem dX1_readPart_32 : decode cX1_readPart 32 = .ok (.if_icmp .ne 14, 3) := by decide +kernel
theorem dX1_readPart_35 : decode cX1_readPart 35 = .ok (.aload_n 0, 1) := by decide +kernel
theorem dX1_readPart_36 : decode cX1_readPart 36 = .ok (.aload_n 0, 1) := by decide +kernel
theorem dX1_readPart_37 : decode cX1_readPart 37 = .ok (.getfield 23, 3) := by decide +kernel
theorem dX1_readPart_40 : decode cX1_readPart 40 = .ok (.iload_n 1, 1) := by decide +kernel
theorem dX1_readPart_41 : decode cX1_readPart 41 = .ok (.aaload, 1) := by decide +kernel
theorem dX1_readPart_42 : decode cX1_readPart 42 = .ok (.invokevirtual 99, 3) := by decide +kernel
theorem dX1_readPart_45 : decode cX1_readPart 45 = .ok (.ireturn, 1) := by decide +kernel
theorem dX1_readPart_46 : decode cX1_readPart 46 = .ok (.aload_n 0, 1) := by decide +kernel
theorem dX1_readPart_47 : decode cX1_readPart 47 = .ok (.invokevirtual 52, 3) := by decide +kernel
theorem dX1_readPart_50 : decode cX1_readPart 50 = .ok (.bipush 40, 2) := by decide +kernel
theorem dX1_readPart_52 : decode cX1_readPart 52 = .ok (.if_icmp .ne 14, 3) := by decide +kernel
theorem dX1_readPart_55 : decode cX1_readPart 55 = .ok (.iload_n 1, 1) := by decide +kernel
theorem dX1_readPart_56 : decode cX1_readPart 56 = .ok (.iconst 5, 1) := by decide +kernel
theorem dX1_readPart_57 : decode cX1_readPart 57 = .ok (.if_icmp .ge 9, 3) := by decide +kernel
theorem dX1_readPart_60 : decode cX1_readPart 60 = .ok (.aload_n 0, 1) := by decide +kernel
theorem dX1_readPart_61 : decode cX1_readPart 61 = .ok (.iload_n 1, 1) := by decide +kernel
theorem dX1_readPart_62 : decode cX1_readPart 62 = .ok (.invokevirtual 103, 3) := by decide +kernel
theorem dX1_readPart_65 : decode cX1_readPart 65 = .ok (.ireturn, 1) := by decide +kernel
theorem dX1_readPart_66 : decode cX1_readPart 66 = .ok (.aload_n 0, 1) := by decide +kernel
theorem dX1_readPart_67 : decode cX1_readPart 67 = .ok (.aload_n 0, 1) := by decide +kernel
theorem dX1_readPart_68 : decode cX1_readPart 68 = .ok (.getfield 42, 3) := by decide +kernel
theorem dX1_readPart_71 : decode cX1_readPart 71 = .ok (.invokevirtual 56, 3) := by decide +kernel
theorem dX1_readPart_74 : decode cX1_readPart 74 = .ok (.ireturn, 1) := by decide +kernel
section
variable {p : Program} {l : Launch} {e : Env} {s : State} {m : MethodId} {args : Array Value} {below : List Frame} {meth : Method} {c : Code} {Q : State → Prop} {G : GG} {A : Nat → Prop} {q : Nat → Nat} {fr : va_W}
def f_X1_readPart (RS : Int32 → (Nat → Int32) → Int32 → (Nat → Int32) → (Nat → Int32) → Int32 → (Nat → Int32) → (Nat → Int32) → (Nat → Int32) → Int32 → Int32 → Int32 → (Nat → Nat → Int64) → Int32 → Option (Int32 × Int32 × (Nat → Int32) × (Nat → Int32) × Int32 × (Nat → Int32) × (Nat → Int32) × Int32 × Int32 × (Nat → Nat → Int64))) (ze : Int32) (aF : Nat → Int32) (ztc : Int32) (aTs : Nat → Int32) (aTn : Nat → Int32) (zoc : Int32) (aOs : Nat → Int32) (aOn : Nat → Int32) (aTp : Nat → Int32) (zln : Int32) (zpl : Int32) (zfa : Int32) (M : Nat → Nat → Int64) (v1 : Int32) : Option (Int32 × Int32 × (Nat → Int32) × (Nat → Int32) × Int32 × (Nat → Int32) × (Nat → Int32) × Int32 × Int32 × (Nat → Nat → Int64)) :=
  (f_X1_letter aTp zln zpl).bind fun z1 =>
  (f_X1_isFigure z1).bind fun z2 =>
  if z2 = 0 then
  (f_X1_letter aTp zln zpl).bind fun z4 =>
  if z4 = 110 then
  if inb v1 6 then
  (f_X1_readPeriod ze ztc aTs aTn zoc aOs aOn aTp zln zpl zfa M (23 + v1.toNatClampNeg)).bind fun z16 =>
  if z16.1 = 0 ∨ z16.1 = 1 then
  some (z16.1, z16.2.1, z16.2.2.1, z16.2.2.2.1, z16.2.2.2.2.1, aOs, aOn, z16.2.2.2.2.2.1, z16.2.2.2.2.2.2.1, z16.2.2.2.2.2.2.2)
  else none
  else none
  else
  (f_X1_letter aTp zln zpl).bind fun z6 =>
  if z6 = 40 then
  if 5 ≤ v1 then
  (f_X1_faultAt ztc aTs aTn zoc aOs aOn zfa zpl).bind fun z11 =>
  if z11.1 = 0 ∨ z11.1 = 1 then
  some (z11.1, z11.2.1, z11.2.2.1, z11.2.2.2.1, z11.2.2.2.2.1, aOs, aOn, zpl, z11.2.2.2.2.2, M)
  else none
  else
  (f_X1_readBracket RS ze aF ztc aTs aTn zoc aOs aOn aTp zln zpl zfa M v1).bind fun z13 =>
  if z13.1 = 0 ∨ z13.1 = 1 then
  some (z13.1, z13.2.1, z13.2.2.1, z13.2.2.2.1, z13.2.2.2.2.1, z13.2.2.2.2.2.1, z13.2.2.2.2.2.2.1, z13.2.2.2.2.2.2.2.1, z13.2.2.2.2.2.2.2.2.1, z13.2.2.2.2.2.2.2.2.2)
  else none
  else
  (f_X1_faultAt ztc aTs aTn zoc aOs aOn zfa zpl).bind fun z8 =>
  if z8.1 = 0 ∨ z8.1 = 1 then
  some (z8.1, z8.2.1, z8.2.2.1, z8.2.2.2.1, z8.2.2.2.2.1, aOs, aOn, zpl, z8.2.2.2.2.2, M)
  else none
  else
  if inb v1 6 then
  (f_X1_readFigures aTp zln zpl 3).bind fun z19 =>
  (f_X4_setWhole M (23 + v1.toNatClampNeg) z19.1).bind fun z20 =>
  some (1, ztc, aTs, aTn, zoc, aOs, aOn, z19.2, zfa, z20)
  else none
set_option maxHeartbeats 4000000 in
set_option maxRecDepth 100000 in
theorem k_X1_readPart {l : Launch} {G : GG} {q : Nat → Nat} {fr : va_W} {d : Nat} {RS : Int32 → (Nat → Int32) → Int32 → (Nat → Int32) → (Nat → Int32) → Int32 → (Nat → Int32) → (Nat → Int32) → (Nat → Int32) → Int32 → Int32 → Int32 → (Nat → Nat → Int64) → Int32 → Option (Int32 × Int32 × (Nat → Int32) × (Nat → Int32) × Int32 × (Nat → Int32) × (Nat → Int32) × Int32 × Int32 × (Nat → Nat → Int64))} {zp : Int32} {ze : Int32} {zf : Int32} {zg : Int32} {zn : Int32} {aG : Nat → Int32} {aW : Nat → Int32} {aR : Nat → Int32} {aN : Nat → Int32} {aF : Nat → Int32} {lC : Nat → Int64} {lS : Nat → Int64} {lP : Nat → Int64} {lX : Nat → Int64} {ztc : Int32} {aTs : Nat → Int32} {aTn : Nat → Int32} {zoc : Int32} {aOs : Nat → Int32} {aOn : Nat → Int32} {aTp : Nat → Int32} {zln : Int32} {zpl : Int32} {zfa : Int32} {aSz : Nat → Int32} {zit : Int32} {zip : Int32} {zic : Int32} {zig : Int32} {M : Nat → Nat → Int64} {v1 : Int32} {z : Int32 × Int32 × (Nat → Int32) × (Nat → Int32) × Int32 × (Nat → Int32) × (Nat → Int32) × Int32 × Int32 × (Nat → Nat → Int64)} (hRS : ∀ (fr : va_W) (zp : Int32) (ze : Int32) (zf : Int32) (zg : Int32) (zn : Int32) (aG : Nat → Int32) (aW : Nat → Int32) (aR : Nat → Int32) (aN : Nat → Int32) (aF : Nat → Int32) (lC : Nat → Int64) (lS : Nat → Int64) (lP : Nat → Int64) (lX : Nat → Int64) (ztc : Int32) (aTs : Nat → Int32) (aTn : Nat → Int32) (zoc : Int32) (aOs : Nat → Int32) (aOn : Nat → Int32) (aTp : Nat → Int32) (zln : Int32) (zpl : Int32) (zfa : Int32) (aSz : Nat → Int32) (zit : Int32) (zip : Int32) (zic : Int32) (zig : Int32) (M : Nat → Nat → Int64) (v1 : Int32) (z : Int32 × Int32 × (Nat → Int32) × (Nat → Int32) × Int32 × (Nat → Int32) × (Nat → Int32) × Int32 × Int32 × (Nat → Nat → Int64)), RS ze aF ztc aTs aTn zoc aOs aOn aTp zln zpl zfa M v1 = some z → Ct l G yX1_readSum cX1_readSum 4 (some .boolean) (20 + 4 * d) (600 + 87 * d) [.ref (q 16), .int v1] (kW G q zp ze zf zg zn aG aW aR aN aF lC lS lP lX ++ (oW G q ztc aTs aTn zoc aOs aOn aTp zln zpl zfa aSz zit zip zic zig M ++ fr)) (some (.int z.1)) (kW G q zp ze zf zg zn aG aW aR aN aF lC lS lP lX ++ (oW G q z.2.1 z.2.2.1 z.2.2.2.1 z.2.2.2.2.1 z.2.2.2.2.2.1 z.2.2.2.2.2.2.1 aTp zln z.2.2.2.2.2.2.2.1 z.2.2.2.2.2.2.2.2.1 aSz zit zip zic zig z.2.2.2.2.2.2.2.2.2 ++ fr))) (h : f_X1_readPart RS ze aF ztc aTs aTn zoc aOs aOn aTp zln zpl zfa M v1 = some z) : Ct l G yX1_readPart cX1_readPart 2 (some .boolean) (20 + 4 * d + 2) (600 + 87 * d + 44) [.ref (q 16), .int v1] (kW G q zp ze zf zg zn aG aW aR aN aF lC lS lP lX ++ (oW G q ztc aTs aTn zoc aOs aOn aTp zln zpl zfa aSz zit zip zic zig M ++ fr)) (some (.int z.1)) (kW G q zp ze zf zg zn aG aW aR aN aF lC lS lP lX ++ (oW G q z.2.1 z.2.2.1 z.2.2.2.1 z.2.2.2.2.1 z.2.2.2.2.2.1 z.2.2.2.2.2.2.1 aTp zln z.2.2.2.2.2.2.2.1 z.2.2.2.2.2.2.2.2.1 aSz zit zip zic zig z.2.2.2.2.2.2.2.2.2 ++ fr)) := by
  refine Ct.of (by decide +kernel) (Nat.le_of_ble_eq_true rfl) trivial ?_
  intro p e s m args below meth c Q A ls F hw hA hE hl
  have hx := F.x
  have hb := F.b
  unfold f_X1_readPart at h
  obtain ⟨H, hH⟩ : ∃ H, H = s.heap := ⟨_, rfl⟩
  obtain ⟨locs, hlo⟩ : ∃ locs : List Loc, locs = [] := ⟨_, rfl⟩
  rw [← hH, ← hlo] at hw ⊢
  have hl : lv_has ls 2 [(0, .ref (q 16)), (1, .int v1)] := hl
  refine lv_aload_n hx hb dX1_readPart_0 rfl (lv_at hl 0 rfl) ?_
  obtain ⟨z1, hz1, h⟩ := stB h
  refine ctV (av := []) (st0 := ([] : List Value)) (st1 := ([.int z1] : List Value)) F hw hA (k_X1_letter hz1) kl_1_52 kd_X1_letter rfl ⟨by omega, by omega⟩ 16 rfl rfl hl.1 rfl (Nat.le_of_ble_eq_true rfl) dX1_readPart_1 rfl (fun H locs hw => ?_)
  obtain ⟨z2, hz2, h⟩ := stB h
  refine ctS (av := [.int z1]) (st0 := ([] : List Value)) (st1 := ([.int z2] : List Value)) F hw hA (k_X1_isFigure hz2) kl_1_88 kd_X1_isFigure rfl ⟨by omega, by omega⟩ hl.1 rfl (Nat.le_of_ble_eq_true rfl) dX1_readPart_4 rfl (fun H locs hw => ?_)
  refine lv_if_eq (tgt := 26) hx hb dX1_readPart_7 (by decide) (fun c3 => ?_) (fun c3 => ?_)
  · replace h := stT c3 h
    refine lv_aload_n hx hb dX1_readPart_26 rfl (lv_at hl 0 rfl) ?_
    obtain ⟨z4, hz4, h⟩ := stB h
    refine ctV (av := []) (st0 := ([] : List Value)) (st1 := ([.int z4] : List Value)) F hw hA (k_X1_letter hz4) kl_1_52 kd_X1_letter rfl ⟨by omega, by omega⟩ 16 rfl rfl hl.1 rfl (Nat.le_of_ble_eq_true rfl) dX1_readPart_27 rfl (fun H locs hw => ?_)
    refine lv_bipush (v := 110) hx hb dX1_readPart_30 (by decide) ?_
    refine lv_icmp_ne (tgt := 46) hx hb dX1_readPart_32 (by decide) (fun c5 => ?_) (fun c5 => ?_)
    · replace h := stF c5 h
      refine lv_aload_n hx hb dX1_readPart_46 rfl (lv_at hl 0 rfl) ?_
      obtain ⟨z6, hz6, h⟩ := stB h
      refine ctV (av := []) (st0 := ([] : List Value)) (st1 := ([.int z6] : List Value)) F hw hA (k_X1_letter hz6) kl_1_52 kd_X1_letter rfl ⟨by omega, by omega⟩ 16 rfl rfl hl.1 rfl (Nat.le_of_ble_eq_true rfl) dX1_readPart_47 rfl (fun H locs hw => ?_)
      refine lv_bipush (v := 40) hx hb dX1_readPart_50 (by decide) ?_
      refine lv_icmp_ne (tgt := 66) hx hb dX1_readPart_52 (by decide) (fun c7 => ?_) (fun c7 => ?_)
      · replace h := stF c7 h
        refine lv_aload_n hx hb dX1_readPart_66 rfl (lv_at hl 0 rfl) ?_
        refine lv_aload_n hx hb dX1_readPart_67 rfl (lv_at hl 0 rfl) ?_
        refine gf_1_42 F hw dX1_readPart_68 ?_
        obtain ⟨z8, hz8, h⟩ := stB h
        refine ctV (av := [.int zpl]) (st0 := ([] : List Value)) (st1 := ([.int z8.1] : List Value)) F hw hA (k_X1_faultAt hz8) kl_1_56 kd_X1_faultAt rfl ⟨by omega, by omega⟩ 16 rfl rfl hl.1 rfl (Nat.le_of_ble_eq_true rfl) dX1_readPart_71 rfl (fun H locs hw => ?_)
        obtain ⟨g9, h⟩ := stG h
        obtain rfl := Option.some.inj h
        exact hE H locs _ ls hw g9 dX1_readPart_74
      · replace h := stT c7 h
        refine lv_iload_n hx hb dX1_readPart_55 rfl (lv_at hl 1 rfl) ?_
        refine lv_iconst (v := 5) hx hb dX1_readPart_56 (by decide) ?_
        refine lv_icmp_ge (tgt := 66) hx hb dX1_readPart_57 (by decide) (fun c10 => ?_) (fun c10 => ?_)
        · replace h := stT c10 h
          refine lv_aload_n hx hb dX1_readPart_66 rfl (lv_at hl 0 rfl) ?_
          refine lv_aload_n hx hb dX1_readPart_67 rfl (lv_at hl 0 rfl) ?_
          refine gf_1_42 F hw dX1_readPart_68 ?_
          obtain ⟨z11, hz11, h⟩ := stB h
          refine ctV (av := [.int zpl]) (st0 := ([] : List Value)) (st1 := ([.int z11.1] : List Value)) F hw hA (k_X1_faultAt hz11) kl_1_56 kd_X1_faultAt rfl ⟨by omega, by omega⟩ 16 rfl rfl hl.1 rfl (Nat.le_of_ble_eq_true rfl) dX1_readPart_71 rfl (fun H locs hw => ?_)
          obtain ⟨g12, h⟩ := stG h
          obtain rfl := Option.some.inj h
          exact hE H locs _ ls hw g12 dX1_readPart_74
        · replace h := stF c10 h
          refine lv_aload_n hx hb dX1_readPart_60 rfl (lv_at hl 0 rfl) ?_
          refine lv_iload_n hx hb dX1_readPart_61 rfl (lv_at hl 1 rfl) ?_
          obtain ⟨z13, hz13, h⟩ := stB h
          refine ctV (av := [.int v1]) (st0 := ([] : List Value)) (st1 := ([.int z13.1] : List Value)) F hw hA (k_X1_readBracket hRS hz13) kl_1_103 kd_X1_readBracket rfl ⟨by omega, by omega⟩ 16 rfl rfl hl.1 rfl (Nat.le_of_ble_eq_true rfl) dX1_readPart_62 rfl (fun H locs hw => ?_)
          obtain ⟨g14, h⟩ := stG h
          obtain rfl := Option.some.inj h
          exact hE H locs _ ls hw g14 dX1_readPart_65
    · replace h := stT c5 h
      refine lv_aload_n hx hb dX1_readPart_35 rfl (lv_at hl 0 rfl) ?_
      refine lv_aload_n hx hb dX1_readPart_36 rfl (lv_at hl 0 rfl) ?_
      refine gf_1_23 F hw dX1_readPart_37 ?_
      refine lv_iload_n hx hb dX1_readPart_40 rfl (lv_at hl 1 rfl) ?_
      obtain ⟨g15, h⟩ := stG h
      refine aq_c20 F hw g15 dX1_readPart_41 ?_
      obtain ⟨z16, hz16, h⟩ := stB h
      refine ctV (av := [.ref (q (26 + (23 + v1.toNatClampNeg)))]) (st0 := ([] : List Value)) (st1 := ([.int z16.1] : List Value)) F hw hA (k_X1_readPeriod (Nat.lt_of_lt_of_le (Nat.add_lt_add_left (inb_lt g15) 23) (by decide)) hz16) kl_1_99 kd_X1_readPeriod rfl ⟨by omega, by omega⟩ 16 rfl rfl hl.1 rfl (Nat.le_of_ble_eq_true rfl) dX1_readPart_42 rfl (fun H locs hw => ?_)
      obtain ⟨g17, h⟩ := stG h
      obtain rfl := Option.some.inj h
      exact hE H locs _ ls hw g17 dX1_readPart_45
  · replace h := stF c3 h
    refine lv_aload_n hx hb dX1_readPart_10 rfl (lv_at hl 0 rfl) ?_
    refine gf_1_23 F hw dX1_readPart_11 ?_
    refine lv_iload_n hx hb dX1_readPart_14 rfl (lv_at hl 1 rfl) ?_
    obtain ⟨g18, h⟩ := stG h
    refine aq_c20 F hw g18 dX1_readPart_15 ?_
    refine lv_aload_n hx hb dX1_readPart_16 rfl (lv_at hl 0 rfl) ?_
    refine lv_iconst (v := 3) hx hb dX1_readPart_17 (by decide) ?_
    obtain ⟨z19, hz19, h⟩ := stB h
    refine ctV (av := [.int 3]) (st0 := ([.ref (q (26 + (23 + v1.toNatClampNeg)))] : List Value)) (st1 := ([.int z19.1, .ref (q (26 + (23 + v1.toNatClampNeg)))] : List Value)) F hw hA (k_X1_readFigures hz19) kl_1_91 kd_X1_readFigures rfl ⟨by omega, by omega⟩ 16 rfl rfl hl.1 rfl (Nat.le_of_ble_eq_true rfl) dX1_readPart_18 rfl (fun H locs hw => ?_)
    obtain ⟨z20, hz20, h⟩ := stB h
    refine ctSN (av := [.ref (q (26 + (23 + v1.toNatClampNeg))), .int z19.1]) (st0 := ([] : List Value)) (st1 := ([] : List Value)) (host := RX4) F hw hA (k_X4_setWhole (Nat.lt_of_lt_of_le (Nat.add_lt_add_left (inb_lt g18) 23) (by decide)) hz20) (by decide +kernel) kn_X4_setWhole ki_4 ks_X4_setWhole kd_X4_setWhole rfl ⟨by omega, by omega⟩ hl.1 rfl (Nat.le_of_ble_eq_true rfl) dX1_readPart_21 rfl (fun H locs hw => ?_)
    refine lv_iconst (v := 1) hx hb dX1_readPart_24 (by decide) ?_
    obtain rfl := Option.some.inj h
    exact hE H locs _ ls hw (Or.inr rfl) dX1_readPart_25
end
theorem dX1_readProduct_0 : decode cX1_readProduct 0 = .ok (.aload_n 0, 1) := by decide +kernel
theorem dX1_readProduct_1 : decode cX1_readProduct 1 = .ok (.iload_n 1, 1) := by decide +kernel
theorem dX1_readProduct_2 : decode cX1_readProduct 2 = .ok (.invokevirtual 82, 3) := by decide +kernel
theorem dX1_readProduct_5 : decode cX1_readProduct 5 = .ok (.ifCond .ne 5, 3) := by decide +kernel
theorem dX1_readProduct_8 : decode cX1_readProduct 8 = .ok (.iconst 0, 1) := by decide +kernel
theorem dX1_readProduct_9 : decode cX1_readProduct 9 = .ok (.ireturn, 1) := by decide +kernel
theorem dX1_readProduct_10 : decode cX1_readProduct 10 = .ok (.aload_n 0, 1) := by decide +kernel
theorem dX1_readProduct_11 : decode cX1_readProduct 11 = .ok (.getfield 23, 3) := by decide +kernel
theorem dX1_readProduct_14 : decode cX1_readProduct 14 = .ok (.iload_n 1, 1) := by decide +kernel
theorem dX1_readProduct_15 : decode cX1_readProduct 15 = .ok (.aaload, 1) := by decide +kernel
theorem dX1_readProduct_16 : decode cX1_readProduct 16 = .ok (.aload_n 0, 1) := by decide +kernel
theorem dX1_readProduct_17 : decode cX1_readProduct 17 = .ok (.getfield 20, 3) := by decide +kernel
theorem dX1_readProduct_20 : decode cX1_readProduct 20 = .ok (.iload_n 1, 1) := by decide +kernel
theorem dX1_readProduct_21 : decode cX1_readProduct 21 = .ok (.aaload, 1) := by decide +kernel
theorem dX1_readProduct_22 : decode cX1_readProduct 22 = .ok (.invokestatic 59, 3) := by decide +kernel
theorem dX1_readProduct_25 : decode cX1_readProduct 25 = .ok (.iconst 0, 1) := by decide +kernel
theorem dX1_readProduct_26 : decode cX1_readProduct 26 = .ok (.istore_n 2, 1) := by decide +kernel
theorem dX1_readProduct_27 : decode cX1_readProduct 27 = .ok (.iload_n 2, 1) := by decide +kernel
theorem dX1_readProduct_28 : decode cX1_readProduct 28 = .ok (.bipush 80, 2) := by decide +kernel
theorem dX1_readProduct_30 : decode cX1_readProduct 30 = .ok (.if_icmp .ge 66, 3) := by decide +kernel
theorem dX1_readProduct_33 : decode cX1_readProduct 33 = .ok (.aload_n 0, 1) := by decide +kernel
theorem dX1_readProduct_34 : decode cX1_readProduct 34 = .ok (.invokevirtual 52, 3) := by decide +kernel
theorem dX1_readProduct_37 : decode cX1_readProduct 37 = .ok (.bipush 42, 2) := by decide +kernel
theorem dX1_readProduct_39 : decode cX1_readProduct 39 = .ok (.if_icmp .ne 57, 3) := by decide +kernel
theorem dX1_readProduct_42 : decode cX1_readProduct 42 = .ok (.aload_n 0, 1) := by decide +kernel
theorem dX1_readProduct_43 : decode cX1_readProduct 43 = .ok (.dup, 1) := by decide +kernel
theorem dX1_readProduct_44 : decode cX1_readProduct 44 = .ok (.getfield 42, 3) := by decide +kernel
theorem dX1_readProduct_47 : decode cX1_readProduct 47 = .ok (.iconst 1, 1) := by decide +kernel
theorem dX1_readProduct_48 : decode cX1_readProduct 48 = .ok (.iadd, 1) := by decide +kernel
theorem dX1_readProduct_49 : decode cX1_readProduct 49 = .ok (.putfield 42, 3) := by decide +kernel
theorem dX1_readProduct_52 : decode cX1_readProduct 52 = .ok (.aload_n 0, 1) := by decide +kernel
theorem dX1_readProduct_53 : decode cX1_readProduct 53 = .ok (.iload_n 1, 1) := by decide +kernel
theorem dX1_readProduct_54 : decode cX1_readProduct 54 = .ok (.invokevirtual 82, 3) := by decide +kernel
theorem dX1_readProduct_57 : decode cX1_readProduct 57 = .ok (.ifCond .eq 31, 3) := by decide +kernel
theorem dX1_readProduct_60 : decode cX1_readProduct 60 = .ok (.aload_n 0, 1) := by decide +kernel
theorem dX1_readProduct_61 : decode cX1_readProduct 61 = .ok (.getfield 30, 3) := by decide +kernel
theorem dX1_readProduct_64 : decode cX1_readProduct 64 = .ok (.aload_n 0, 1) := by decide +kernel
theorem dX1_readProduct_65 : decode cX1_readProduct 65 = .ok (.getfield 20, 3) := by decide +kernel
theorem dX1_readProduct_68 : decode cX1_readProduct 68 = .ok (.iload_n 1, 1) := by decide +kernel
theorem dX1_readProduct_69 : decode cX1_readProduct 69 = .ok (.aaload, 1) := by decide +kernel
theorem dX1_readProduct_70 : decode cX1_readProduct 70 = .ok (.aload_n 0, 1) := by decide +kernel
theorem dX1_readProduct_71 : decode cX1_readProduct 71 = .ok (.getfield 23, 3) := by decide +kernel
theorem dX1_readProduct_74 : decode cX1_readProduct 74 = .ok (.iload_n 1, 1) := by decide +kernel
theorem dX1_readProduct_75 : decode cX1_readProduct 75 = .ok (.aaload, 1) := by decide +kernel
theorem dX1_readProduct_76 : decode cX1_readProduct 76 = .ok (.aload_n 0, 1) := by decide +kernel
theorem dX1_readProduct_77 : decode cX1_readProduct 77 = .ok (.getfield 20, 3) := by decide +kernel
theorem dX1_readProduct_80 : decode cX1_readProduct 80 = .ok (.iload_n 1, 1) := by decide +kernel
theorem dX1_readProduct_81 : decode cX1_readProduct 81 = .ok (.aaload, 1) := by decide +kernel
theorem dX1_readProduct_82 : decode cX1_readProduct 82 = .ok (.invokevirtual 85, 3) := by decide +kernel
theorem dX1_readProduct_85 : decode cX1_readProduct 85 = .ok (.ifCond .ne 5, 3) := by decide +kernel
theorem dX1_readProduct_88 : decode cX1_readProduct 88 = .ok (.iconst 0, 1) := by decide +kernel
theorem dX1_readProduct_89 : decode cX1_readProduct 89 = .ok (.ireturn, 1) := by decide +kernel
theorem dX1_readProduct_90 : decode cX1_readProduct 90 = .ok (.iinc 2 1, 3) := by decide +kernel
theorem dX1_readProduct_93 : decode cX1_readProduct 93 = .ok (.goto (-66), 3) := by decide +kernel
theorem dX1_readProduct_96 : decode cX1_readProduct 96 = .ok (.iconst 1, 1) := by decide +kernel
theorem dX1_readProduct_97 : decode cX1_readProduct 97 = .ok (.ireturn, 1) := by decide +kernel
section
variable {p : Program} {l : Launch} {e : Env} {s : State} {m : MethodId} {args : Array Value} {below : List Frame} {meth : Method} {c : Code} {Q : State → Prop} {G : GG} {A : Nat → Prop} {q : Nat → Nat} {fr : va_W}
def f_X1_readProduct_L27 (RS : Int32 → (Nat → Int32) → Int32 → (Nat → Int32) → (Nat → Int32) → Int32 → (Nat → Int32) → (Nat → Int32) → (Nat → Int32) → Int32 → Int32 → Int32 → (Nat → Nat → Int64) → Int32 → Option (Int32 × Int32 × (Nat → Int32) × (Nat → Int32) × Int32 × (Nat → Int32) × (Nat → Int32) × Int32 × Int32 × (Nat → Nat → Int64))) (ze : Int32) (aF : Nat → Int32) (aTp : Nat → Int32) (zln : Int32) (v1 : Int32) : Nat → Int32 → (Nat → Int32) → (Nat → Int32) → Int32 → (Nat → Int32) → (Nat → Int32) → Int32 → Int32 → (Nat → Nat → Int64) → Int32 → Option (Int32 × Int32 × (Nat → Int32) × (Nat → Int32) × Int32 × (Nat → Int32) × (Nat → Int32) × Int32 × Int32 × (Nat → Nat → Int64))
  | 0, _, _, _, _, _, _, _, _, _, _ => none
  | fu + 1, ztc, aTs, aTn, zoc, aOs, aOn, zpl, zfa, M, v2 =>
    if 80 ≤ v2 then
    some (1, ztc, aTs, aTn, zoc, aOs, aOn, zpl, zfa, M)
    else
    (f_X1_letter aTp zln zpl).bind fun z2 =>
    if z2 = 42 then
    (f_X1_readPart RS ze aF ztc aTs aTn zoc aOs aOn aTp zln (zpl + 1) zfa M v1).bind fun z4 =>
    if z4.1 = 0 then
    some (0, z4.2.1, z4.2.2.1, z4.2.2.2.1, z4.2.2.2.2.1, z4.2.2.2.2.2.1, z4.2.2.2.2.2.2.1, z4.2.2.2.2.2.2.2.1, z4.2.2.2.2.2.2.2.2.1, z4.2.2.2.2.2.2.2.2.2)
    else
    if inb v1 6 then
    if inb v1 6 then
    if inb v1 6 then
    (f_X2_multiply ze aF z4.2.1 z4.2.2.1 z4.2.2.2.1 z4.2.2.2.2.1 z4.2.2.2.2.2.1 z4.2.2.2.2.2.2.1 z4.2.2.2.2.2.2.2.2.2 (17 + v1.toNatClampNeg) (23 + v1.toNatClampNeg) (17 + v1.toNatClampNeg)).bind fun z9 =>
    if z9.1 = 0 then
    some (0, z9.2.1, z9.2.2.1, z9.2.2.2.1, z9.2.2.2.2.1, z4.2.2.2.2.2.1, z4.2.2.2.2.2.2.1, z4.2.2.2.2.2.2.2.1, z4.2.2.2.2.2.2.2.2.1, z9.2.2.2.2.2)
    else
    f_X1_readProduct_L27 RS ze aF aTp zln v1 fu z9.2.1 z9.2.2.1 z9.2.2.2.1 z9.2.2.2.2.1 z4.2.2.2.2.2.1 z4.2.2.2.2.2.2.1 z4.2.2.2.2.2.2.2.1 z4.2.2.2.2.2.2.2.2.1 z9.2.2.2.2.2 (v2 + 1)
    else none
    else none
    else none
    else
    some (1, ztc, aTs, aTn, zoc, aOs, aOn, zpl, zfa, M)
set_option maxHeartbeats 4000000 in
set_option maxRecDepth 100000 in
theorem w_X1_readProduct_L27 {d : Nat} {RS : Int32 → (Nat → Int32) → Int32 → (Nat → Int32) → (Nat → Int32) → Int32 → (Nat → Int32) → (Nat → Int32) → (Nat → Int32) → Int32 → Int32 → Int32 → (Nat → Nat → Int64) → Int32 → Option (Int32 × Int32 × (Nat → Int32) × (Nat → Int32) × Int32 × (Nat → Int32) × (Nat → Int32) × Int32 × Int32 × (Nat → Nat → Int64))} {zp : Int32} {ze : Int32} {zf : Int32} {zg : Int32} {zn : Int32} {aG : Nat → Int32} {aW : Nat → Int32} {aR : Nat → Int32} {aN : Nat → Int32} {aF : Nat → Int32} {lC : Nat → Int64} {lS : Nat → Int64} {lP : Nat → Int64} {lX : Nat → Int64} {aTp : Nat → Int32} {zln : Int32} {aSz : Nat → Int32} {zit : Int32} {zip : Int32} {zic : Int32} {zig : Int32} {v1 : Int32}  (F : Fx p s m args meth c cX1_readProduct 3 RX1 (some .boolean)) (hA : ∀ q, s.heap.size ≤ q → A q) (hRS : ∀ (fr : va_W) (zp : Int32) (ze : Int32) (zf : Int32) (zg : Int32) (zn : Int32) (aG : Nat → Int32) (aW : Nat → Int32) (aR : Nat → Int32) (aN : Nat → Int32) (aF : Nat → Int32) (lC : Nat → Int64) (lS : Nat → Int64) (lP : Nat → Int64) (lX : Nat → Int64) (ztc : Int32) (aTs : Nat → Int32) (aTn : Nat → Int32) (zoc : Int32) (aOs : Nat → Int32) (aOn : Nat → Int32) (aTp : Nat → Int32) (zln : Int32) (zpl : Int32) (zfa : Int32) (aSz : Nat → Int32) (zit : Int32) (zip : Int32) (zic : Int32) (zig : Int32) (M : Nat → Nat → Int64) (v1 : Int32) (z : Int32 × Int32 × (Nat → Int32) × (Nat → Int32) × Int32 × (Nat → Int32) × (Nat → Int32) × Int32 × Int32 × (Nat → Nat → Int64)), RS ze aF ztc aTs aTn zoc aOs aOn aTp zln zpl zfa M v1 = some z → Ct l G yX1_readSum cX1_readSum 4 (some .boolean) (20 + 4 * d) (600 + 87 * d) [.ref (q 16), .int v1] (kW G q zp ze zf zg zn aG aW aR aN aF lC lS lP lX ++ (oW G q ztc aTs aTn zoc aOs aOn aTp zln zpl zfa aSz zit zip zic zig M ++ fr)) (some (.int z.1)) (kW G q zp ze zf zg zn aG aW aR aN aF lC lS lP lX ++ (oW G q z.2.1 z.2.2.1 z.2.2.2.1 z.2.2.2.2.1 z.2.2.2.2.2.1 z.2.2.2.2.2.2.1 aTp zln z.2.2.2.2.2.2.2.1 z.2.2.2.2.2.2.2.2.1 aSz zit zip zic zig z.2.2.2.2.2.2.2.2.2 ++ fr)))  : ∀ (fu : Nat) (ztc : Int32) (aTs : Nat → Int32) (aTn : Nat → Int32) (zoc : Int32) (aOs : Nat → Int32) (aOn : Nat → Int32) (zpl : Int32) (zfa : Int32) (M : Nat → Nat → Int64) (v2 : Int32) (z : Int32 × Int32 × (Nat → Int32) × (Nat → Int32) × Int32 × (Nat → Int32) × (Nat → Int32) × Int32 × Int32 × (Nat → Nat → Int64)), f_X1_readProduct_L27 RS ze aF aTp zln v1 fu ztc aTs aTn zoc aOs aOn zpl zfa M v2 = some z → Ends p l e (rmOf (20 + 4 * d + 3) (600 + 87 * d + 65)) s m args below meth c Q cX1_readProduct G A (some .boolean) (some (.int z.1)) (kW G q zp ze zf zg zn aG aW aR aN aF lC lS lP lX ++ (oW G q z.2.1 z.2.2.1 z.2.2.2.1 z.2.2.2.2.1 z.2.2.2.2.2.1 z.2.2.2.2.2.2.1 aTp zln z.2.2.2.2.2.2.2.1 z.2.2.2.2.2.2.2.2.1 aSz zit zip zic zig z.2.2.2.2.2.2.2.2.2 ++ fr)) → ∀ (H : Heap) (locs : List Loc) (ls : Array Slot), Wd G s A (kW G q zp ze zf zg zn aG aW aR aN aF lC lS lP lX ++ (oW G q ztc aTs aTn zoc aOs aOn aTp zln zpl zfa aSz zit zip zic zig M ++ fr)) H locs → lv_has ls 3 [(0, .ref (q 16)), (1, .int v1), (2, .int v2)] → W p l e (rmOf (20 + 4 * d + 3) (600 + 87 * d + 65)) s m args below meth c H locs 0 0 Q (F0 m 27 ls []) := by
  have hx := F.x
  have hb := F.b
  intro fu
  induction fu with
  | zero =>
    intro ztc aTs aTn zoc aOs aOn zpl zfa M v2 z h
    cases (h : none = some z)
  | succ fu ih =>
    intro ztc aTs aTn zoc aOs aOn zpl zfa M v2 z h hE H locs ls hw hl
    rw [f_X1_readProduct_L27] at h
    refine lv_iload_n hx hb dX1_readProduct_27 rfl (lv_at hl 2 rfl) ?_
    refine lv_bipush (v := 80) hx hb dX1_readProduct_28 (by decide) ?_
    refine lv_icmp_ge (tgt := 96) hx hb dX1_readProduct_30 (by decide) (fun c1 => ?_) (fun c1 => ?_)
    · replace h := stT c1 h
      refine lv_iconst (v := 1) hx hb dX1_readProduct_96 (by decide) ?_
      obtain rfl := Option.some.inj h
      exact hE H locs _ ls hw (Or.inr rfl) dX1_readProduct_97
    · replace h := stF c1 h
      refine lv_aload_n hx hb dX1_readProduct_33 rfl (lv_at hl 0 rfl) ?_
      obtain ⟨z2, hz2, h⟩ := stB h
      refine ctV (av := []) (st0 := ([] : List Value)) (st1 := ([.int z2] : List Value)) F hw hA (k_X1_letter hz2) kl_1_52 kd_X1_letter rfl ⟨by omega, by omega⟩ 16 rfl rfl hl.1 rfl (Nat.le_of_ble_eq_true rfl) dX1_readProduct_34 rfl (fun H locs hw => ?_)
      refine lv_bipush (v := 42) hx hb dX1_readProduct_37 (by decide) ?_
      refine lv_icmp_ne (tgt := 96) hx hb dX1_readProduct_39 (by decide) (fun c3 => ?_) (fun c3 => ?_)
      · replace h := stF c3 h
        refine lv_iconst (v := 1) hx hb dX1_readProduct_96 (by decide) ?_
        obtain rfl := Option.some.inj h
        exact hE H locs _ ls hw (Or.inr rfl) dX1_readProduct_97
      · replace h := stT c3 h
        refine lv_aload_n hx hb dX1_readProduct_42 rfl (lv_at hl 0 rfl) ?_
        refine lv_dup hx hb dX1_readProduct_43 rfl ?_
        refine gf_1_42 F hw dX1_readProduct_44 ?_
        refine lv_iconst (v := 1) hx hb dX1_readProduct_47 (by decide) ?_
        refine lv_iadd hx hb dX1_readProduct_48 ?_
        refine pf_1_42 F hw dX1_readProduct_49 (fun H locs hw => ?_)
        refine lv_aload_n hx hb dX1_readProduct_52 rfl (lv_at hl 0 rfl) ?_
        refine lv_iload_n hx hb dX1_readProduct_53 rfl (lv_at hl 1 rfl) ?_
        obtain ⟨z4, hz4, h⟩ := stB h
        refine ctV (av := [.int v1]) (st0 := ([] : List Value)) (st1 := ([.int z4.1] : List Value)) F hw hA (k_X1_readPart hRS hz4) kl_1_82 kd_X1_readPart rfl ⟨by omega, by omega⟩ 16 rfl rfl hl.1 rfl (Nat.le_of_ble_eq_true rfl) dX1_readProduct_54 rfl (fun H locs hw => ?_)
        refine lv_if_eq (tgt := 88) hx hb dX1_readProduct_57 (by decide) (fun c5 => ?_) (fun c5 => ?_)
        · replace h := stT c5 h
          refine lv_iconst (v := 0) hx hb dX1_readProduct_88 (by decide) ?_
          obtain rfl := Option.some.inj h
          exact hE H locs _ ls hw (Or.inl rfl) dX1_readProduct_89
        · replace h := stF c5 h
          refine lv_aload_n hx hb dX1_readProduct_60 rfl (lv_at hl 0 rfl) ?_
          refine gf_1_30 F hw dX1_readProduct_61 ?_
          refine lv_aload_n hx hb dX1_readProduct_64 rfl (lv_at hl 0 rfl) ?_
          refine gf_1_20 F hw dX1_readProduct_65 ?_
          refine lv_iload_n hx hb dX1_readProduct_68 rfl (lv_at hl 1 rfl) ?_
          obtain ⟨g6, h⟩ := stG h
          refine aq_c19 F hw g6 dX1_readProduct_69 ?_
          refine lv_aload_n hx hb dX1_readProduct_70 rfl (lv_at hl 0 rfl) ?_
          refine gf_1_23 F hw dX1_readProduct_71 ?_
          refine lv_iload_n hx hb dX1_readProduct_74 rfl (lv_at hl 1 rfl) ?_
          obtain ⟨g7, h⟩ := stG h
          refine aq_c20 F hw g7 dX1_readProduct_75 ?_
          refine lv_aload_n hx hb dX1_readProduct_76 rfl (lv_at hl 0 rfl) ?_
          refine gf_1_20 F hw dX1_readProduct_77 ?_
          refine lv_iload_n hx hb dX1_readProduct_80 rfl (lv_at hl 1 rfl) ?_
          obtain ⟨g8, h⟩ := stG h
          refine aq_c19 F hw g8 dX1_readProduct_81 ?_
          obtain ⟨z9, hz9, h⟩ := stB h
          refine ctV (av := [.ref (q (26 + (17 + v1.toNatClampNeg))), .ref (q (26 + (23 + v1.toNatClampNeg))), .ref (q (26 + (17 + v1.toNatClampNeg)))]) (st0 := ([] : List Value)) (st1 := ([.int z9.1] : List Value)) F hw hA (k_X2_multiply (Nat.lt_of_lt_of_le (Nat.add_lt_add_left (inb_lt g6) 17) (by decide)) (Nat.lt_of_lt_of_le (Nat.add_lt_add_left (inb_lt g7) 23) (by decide)) (Nat.lt_of_lt_of_le (Nat.add_lt_add_left (inb_lt g8) 17) (by decide)) hz9) kl_1_85 kd_X2_multiply rfl ⟨by omega, by omega⟩ 15 rfl rfl hl.1 rfl (Nat.le_of_ble_eq_true rfl) dX1_readProduct_82 rfl (fun H locs hw => ?_)
          refine lv_if_ne (tgt := 90) hx hb dX1_readProduct_85 (by decide) (fun c10 => ?_) (fun c10 => ?_)
          · replace h := stF c10 h
            refine lv_iinc (v := (v2 + 1)) (lv' := [(2, .int (v2 + 1)), (0, .ref (q 16)), (1, .int v1)]) hx hb dX1_readProduct_90 hl (k := 2) rfl rfl (by decide) rfl (fun ls hl => ?_)
            refine lv_goto (tgt := 27) hx hb dX1_readProduct_93 (by decide) ?_
            exact ih _ _ _ _ _ _ _ _ _ _ z h hE H locs ls hw (lv_sub hl [1, 2, 0] rfl)
          · replace h := stT c10 h
            refine lv_iconst (v := 0) hx hb dX1_readProduct_88 (by decide) ?_
            obtain rfl := Option.some.inj h
            exact hE H locs _ ls hw (Or.inl rfl) dX1_readProduct_89
def f_X1_readProduct (RS : Int32 → (Nat → Int32) → Int32 → (Nat → Int32) → (Nat → Int32) → Int32 → (Nat → Int32) → (Nat → Int32) → (Nat → Int32) → Int32 → Int32 → Int32 → (Nat → Nat → Int64) → Int32 → Option (Int32 × Int32 × (Nat → Int32) × (Nat → Int32) × Int32 × (Nat → Int32) × (Nat → Int32) × Int32 × Int32 × (Nat → Nat → Int64))) (ze : Int32) (aF : Nat → Int32) (ztc : Int32) (aTs : Nat → Int32) (aTn : Nat → Int32) (zoc : Int32) (aOs : Nat → Int32) (aOn : Nat → Int32) (aTp : Nat → Int32) (zln : Int32) (zpl : Int32) (zfa : Int32) (M : Nat → Nat → Int64) (v1 : Int32) : Option (Int32 × Int32 × (Nat → Int32) × (Nat → Int32) × Int32 × (Nat → Int32) × (Nat → Int32) × Int32 × Int32 × (Nat → Nat → Int64)) :=
  (f_X1_readPart RS ze aF ztc aTs aTn zoc aOs aOn aTp zln zpl zfa M v1).bind fun z1 =>
  if z1.1 = 0 then
  some (0, z1.2.1, z1.2.2.1, z1.2.2.2.1, z1.2.2.2.2.1, z1.2.2.2.2.2.1, z1.2.2.2.2.2.2.1, z1.2.2.2.2.2.2.2.1, z1.2.2.2.2.2.2.2.2.1, z1.2.2.2.2.2.2.2.2.2)
  else
  if inb v1 6 then
  if inb v1 6 then
  (f_X4_copyRow z1.2.2.2.2.2.2.2.2.2 (23 + v1.toNatClampNeg) (17 + v1.toNatClampNeg)).bind fun z5 =>
  f_X1_readProduct_L27 RS ze aF aTp zln v1 FU z1.2.1 z1.2.2.1 z1.2.2.2.1 z1.2.2.2.2.1 z1.2.2.2.2.2.1 z1.2.2.2.2.2.2.1 z1.2.2.2.2.2.2.2.1 z1.2.2.2.2.2.2.2.2.1 z5 0
  else none
  else none
set_option maxHeartbeats 4000000 in
set_option maxRecDepth 100000 in
theorem k_X1_readProduct {l : Launch} {G : GG} {q : Nat → Nat} {fr : va_W} {d : Nat} {RS : Int32 → (Nat → Int32) → Int32 → (Nat → Int32) → (Nat → Int32) → Int32 → (Nat → Int32) → (Nat → Int32) → (Nat → Int32) → Int32 → Int32 → Int32 → (Nat → Nat → Int64) → Int32 → Option (Int32 × Int32 × (Nat → Int32) × (Nat → Int32) × Int32 × (Nat → Int32) × (Nat → Int32) × Int32 × Int32 × (Nat → Nat → Int64))} {zp : Int32} {ze : Int32} {zf : Int32} {zg : Int32} {zn : Int32} {aG : Nat → Int32} {aW : Nat → Int32} {aR : Nat → Int32} {aN : Nat → Int32} {aF : Nat → Int32} {lC : Nat → Int64} {lS : Nat → Int64} {lP : Nat → Int64} {lX : Nat → Int64} {ztc : Int32} {aTs : Nat → Int32} {aTn : Nat → Int32} {zoc : Int32} {aOs : Nat → Int32} {aOn : Nat → Int32} {aTp : Nat → Int32} {zln : Int32} {zpl : Int32} {zfa : Int32} {aSz : Nat → Int32} {zit : Int32} {zip : Int32} {zic : Int32} {zig : Int32} {M : Nat → Nat → Int64} {v1 : Int32} {z : Int32 × Int32 × (Nat → Int32) × (Nat → Int32) × Int32 × (Nat → Int32) × (Nat → Int32) × Int32 × Int32 × (Nat → Nat → Int64)} (hRS : ∀ (fr : va_W) (zp : Int32) (ze : Int32) (zf : Int32) (zg : Int32) (zn : Int32) (aG : Nat → Int32) (aW : Nat → Int32) (aR : Nat → Int32) (aN : Nat → Int32) (aF : Nat → Int32) (lC : Nat → Int64) (lS : Nat → Int64) (lP : Nat → Int64) (lX : Nat → Int64) (ztc : Int32) (aTs : Nat → Int32) (aTn : Nat → Int32) (zoc : Int32) (aOs : Nat → Int32) (aOn : Nat → Int32) (aTp : Nat → Int32) (zln : Int32) (zpl : Int32) (zfa : Int32) (aSz : Nat → Int32) (zit : Int32) (zip : Int32) (zic : Int32) (zig : Int32) (M : Nat → Nat → Int64) (v1 : Int32) (z : Int32 × Int32 × (Nat → Int32) × (Nat → Int32) × Int32 × (Nat → Int32) × (Nat → Int32) × Int32 × Int32 × (Nat → Nat → Int64)), RS ze aF ztc aTs aTn zoc aOs aOn aTp zln zpl zfa M v1 = some z → Ct l G yX1_readSum cX1_readSum 4 (some .boolean) (20 + 4 * d) (600 + 87 * d) [.ref (q 16), .int v1] (kW G q zp ze zf zg zn aG aW aR aN aF lC lS lP lX ++ (oW G q ztc aTs aTn zoc aOs aOn aTp zln zpl zfa aSz zit zip zic zig M ++ fr)) (some (.int z.1)) (kW G q zp ze zf zg zn aG aW aR aN aF lC lS lP lX ++ (oW G q z.2.1 z.2.2.1 z.2.2.2.1 z.2.2.2.2.1 z.2.2.2.2.2.1 z.2.2.2.2.2.2.1 aTp zln z.2.2.2.2.2.2.2.1 z.2.2.2.2.2.2.2.2.1 aSz zit zip zic zig z.2.2.2.2.2.2.2.2.2 ++ fr))) (h : f_X1_readProduct RS ze aF ztc aTs aTn zoc aOs aOn aTp zln zpl zfa M v1 = some z) : Ct l G yX1_readProduct cX1_readProduct 3 (some .boolean) (20 + 4 * d + 3) (600 + 87 * d + 65) [.ref (q 16), .int v1] (kW G q zp ze zf zg zn aG aW aR aN aF lC lS lP lX ++ (oW G q ztc aTs aTn zoc aOs aOn aTp zln zpl zfa aSz zit zip zic zig M ++ fr)) (some (.int z.1)) (kW G q zp ze zf zg zn aG aW aR aN aF lC lS lP lX ++ (oW G q z.2.1 z.2.2.1 z.2.2.2.1 z.2.2.2.2.1 z.2.2.2.2.2.1 z.2.2.2.2.2.2.1 aTp zln z.2.2.2.2.2.2.2.1 z.2.2.2.2.2.2.2.2.1 aSz zit zip zic zig z.2.2.2.2.2.2.2.2.2 ++ fr)) := by
  refine Ct.of (by decide +kernel) (Nat.le_of_ble_eq_true rfl) trivial ?_
  intro p e s m args below meth c Q A ls F hw hA hE hl
  have hx := F.x
  have hb := F.b
  unfold f_X1_readProduct at h
  obtain ⟨H, hH⟩ : ∃ H, H = s.heap := ⟨_, rfl⟩
  obtain ⟨locs, hlo⟩ : ∃ locs : List Loc, locs = [] := ⟨_, rfl⟩
  rw [← hH, ← hlo] at hw ⊢
  have hl : lv_has ls 3 [(0, .ref (q 16)), (1, .int v1)] := hl
  refine lv_aload_n hx hb dX1_readProduct_0 rfl (lv_at hl 0 rfl) ?_
  refine lv_iload_n hx hb dX1_readProduct_1 rfl (lv_at hl 1 rfl) ?_
  obtain ⟨z1, hz1, h⟩ := stB h
  refine ctV (av := [.int v1]) (st0 := ([] : List Value)) (st1 := ([.int z1.1] : List Value)) F hw hA (k_X1_readPart hRS hz1) kl_1_82 kd_X1_readPart rfl ⟨by omega, by omega⟩ 16 rfl rfl hl.1 rfl (Nat.le_of_ble_eq_true rfl) dX1_readProduct_2 rfl (fun H locs hw => ?_)
  refine lv_if_ne (tgt := 10) hx hb dX1_readProduct_5 (by decide) (fun c2 => ?_) (fun c2 => ?_)
  · replace h := stF c2 h
    refine lv_aload_n hx hb dX1_readProduct_10 rfl (lv_at hl 0 rfl) ?_
    refine gf_1_23 F hw dX1_readProduct_11 ?_
    refine lv_iload_n hx hb dX1_readProduct_14 rfl (lv_at hl 1 rfl) ?_
    obtain ⟨g3, h⟩ := stG h
    refine aq_c20 F hw g3 dX1_readProduct_15 ?_
    refine lv_aload_n hx hb dX1_readProduct_16 rfl (lv_at hl 0 rfl) ?_
    refine gf_1_20 F hw dX1_readProduct_17 ?_
    refine lv_iload_n hx hb dX1_readProduct_20 rfl (lv_at hl 1 rfl) ?_
    obtain ⟨g4, h⟩ := stG h
    refine aq_c19 F hw g4 dX1_readProduct_21 ?_
    obtain ⟨z5, hz5, h⟩ := stB h
    refine ctSN (av := [.ref (q (26 + (23 + v1.toNatClampNeg))), .ref (q (26 + (17 + v1.toNatClampNeg)))]) (st0 := ([] : List Value)) (st1 := ([] : List Value)) (host := RX4) F hw hA (k_X4_copyRow (Nat.lt_of_lt_of_le (Nat.add_lt_add_left (inb_lt g3) 23) (by decide)) (Nat.lt_of_lt_of_le (Nat.add_lt_add_left (inb_lt g4) 17) (by decide)) hz5) (by decide +kernel) kn_X4_copyRow ki_4 ks_X4_copyRow kd_X4_copyRow rfl ⟨by omega, by omega⟩ hl.1 rfl (Nat.le_of_ble_eq_true rfl) dX1_readProduct_22 rfl (fun H locs hw => ?_)
    refine lv_iconst (v := 0) hx hb dX1_readProduct_25 (by decide) ?_
    refine lv_istore_n (lv' := [(2, .int 0), (0, .ref (q 16)), (1, .int v1)]) hx hb dX1_readProduct_26 rfl hl (by decide) rfl (fun ls hl => ?_)
    exact w_X1_readProduct_L27 F hA hRS FU _ _ _ _ _ _ _ _ _ _ z h hE H locs ls hw (lv_sub hl [1, 2, 0] rfl)
  · replace h := stT c2 h
    refine lv_iconst (v := 0) hx hb dX1_readProduct_8 (by decide) ?_
    obtain rfl := Option.some.inj h
    exact hE H locs _ ls hw (Or.inl rfl) dX1_readProduct_9
end
theorem dX1_readSum_0 : decode cX1_readSum 0 = .ok (.aload_n 0, 1) := by decide +kernel
theorem dX1_readSum_1 : decode cX1_readSum 1 = .ok (.iload_n 1, 1) := by decide +kernel
theorem dX1_readSum_2 : decode cX1_readSum 2 = .ok (.invokevirtual 63, 3) := by decide +kernel
theorem dX1_readSum_5 : decode cX1_readSum 5 = .ok (.ifCond .ne 5, 3) := by decide +kernel
theorem dX1_readSum_8 : decode cX1_readSum 8 = .ok (.iconst 0, 1) := by decide +kernel
theorem dX1_readSum_9 : decode cX1_readSum 9 = .ok (.ireturn, 1) := by decide +kernel
theorem dX1_readSum_10 : decode cX1_readSum 10 = .ok (.aload_n 0, 1) := by decide +kernel
theorem dX1_readSum_11 : decode cX1_readSum 11 = .ok (.getfield 20, 3) := by decide +kernel
theorem dX1_readSum_14 : decode cX1_readSum 14 = .ok (.iload_n 1, 1) := by decide +kernel
theorem dX1_readSum_15 : decode cX1_readSum 15 = .ok (.aaload, 1) := by decide +kernel
theorem dX1_readSum_16 : decode cX1_readSum 16 = .ok (.aload_n 0, 1) := by decide +kernel
theorem dX1_readSum_17 : decode cX1_readSum 17 = .ok (.getfield 17, 3) := by decide +kernel
theorem dX1_readSum_20 : decode cX1_readSum 20 = .ok (.iload_n 1, 1) := by decide +kernel
theorem dX1_readSum_21 : decode cX1_readSum 21 = .ok (.aaload, 1) := by decide +kernel
theorem dX1_readSum_22 : decode cX1_readSum 22 = .ok (.invokestatic 59, 3) := by decide +kernel
theorem dX1_readSum_25 : decode cX1_readSum 25 = .ok (.iconst 0, 1) := by decide +kernel
theorem dX1_readSum_26 : decode cX1_readSum 26 = .ok (.istore_n 2, 1) := by decide +kernel
theorem dX1_readSum_27 : decode cX1_readSum 27 = .ok (.iload_n 2, 1) := by decide +kernel
theorem dX1_readSum_28 : decode cX1_readSum 28 = .ok (.bipush 80, 2) := by decide +kernel
theorem dX1_readSum_30 : decode cX1_readSum 30 = .ok (.if_icmp .ge 63, 3) := by decide +kernel
theorem dX1_readSum_33 : decode cX1_readSum 33 = .ok (.aload_n 0, 1) := by decide +kernel
theorem dX1_readSum_34 : decode cX1_readSum 34 = .ok (.invokevirtual 52, 3) := by decide +kernel
theorem dX1_readSum_37 : decode cX1_readSum 37 = .ok (.invokestatic 66, 3) := by decide +kernel
theorem dX1_readSum_40 : decode cX1_readSum 40 = .ok (.ifCond .eq 53, 3) := by decide +kernel
theorem dX1_readSum_43 : decode cX1_readSum 43 = .ok (.aload_n 0, 1) := by decide +kernel
theorem dX1_readSum_44 : decode cX1_readSum 44 = .ok (.invokevirtual 52, 3) := by decide +kernel
theorem dX1_readSum_47 : decode cX1_readSum 47 = .ok (.bipush 43, 2) := by decide +kernel
theorem dX1_readSum_49 : decode cX1_readSum 49 = .ok (.if_icmp .ne 7, 3) := by decide +kernel
theorem dX1_readSum_52 : decode cX1_readSum 52 = .ok (.iconst 1, 1) := by decide +kernel
theorem dX1_readSum_53 : decode cX1_readSum 53 = .ok (.goto 4, 3) := by decide +kernel
theorem dX1_readSum_56 : decode cX1_readSum 56 = .ok (.iconst 0, 1) := by decide +kernel
theorem dX1_readSum_57 : decode cX1_readSum 57 = .ok (.istore_n 3, 1) := by decide +kernel
theorem dX1_readSum_58 : decode cX1_readSum 58 = .ok (.aload_n 0, 1) := by decide +kernel
theorem dX1_readSum_59 : decode cX1_readSum 59 = .ok (.dup, 1) := by decide +kernel
theorem dX1_readSum_60 : decode cX1_readSum 60 = .ok (.getfield 42, 3) := by decide +kernel
theorem dX1_readSum_63 : decode cX1_readSum 63 = .ok (.iconst 1, 1) := by decide +kernel
theorem dX1_readSum_64 : decode cX1_readSum 64 = .ok (.iadd, 1) := by decide +kernel
theorem dX1_readSum_65 : decode cX1_readSum 65 = .ok (.putfield 42, 3) := by decide +kernel
theorem dX1_readSum_68 : decode cX1_readSum 68 = .ok (.aload_n 0, 1) := by decide +kernel
theorem dX1_readSum_69 : decode cX1_readSum 69 = .ok (.iload_n 1, 1) := by decide +kernel
theorem dX1_readSum_70 : decode cX1_readSum 70 = .ok (.invokevirtual 63, 3) := by decide +kernel
theorem dX1_readSum_73 : decode cX1_readSum 73 = .ok (.ifCond .eq 12, 3) := by decide +kernel
theorem dX1_readSum_76 : decode cX1_readSum 76 = .ok (.aload_n 0, 1) := by decide +kernel
theorem dX1_readSum_77 : decode cX1_readSum 77 = .ok (.iload_n 3, 1) := by decide +kernel
theorem dX1_readSum_78 : decode cX1_readSum 78 = .ok (.iload_n 1, 1) := by decide +kernel
theorem dX1_readSum_79 : decode cX1_readSum 79 = .ok (.invokevirtual 69, 3) := by decide +kernel
theorem dX1_readSum_82 : decode cX1_readSum 82 = .ok (.ifCond .ne 5, 3) := by decide +kernel
theorem dX1_readSum_85 : decode cX1_readSum 85 = .ok (.iconst 0, 1) := by decide +kernel
theorem dX1_readSum_86 : decode cX1_readSum 86 = .ok (.ireturn, 1) := by decide +kernel
theorem dX1_readSum_87 : decode cX1_readSum 87 = .ok (.iinc 2 1, 3) := by decide +kernel
theorem dX1_readSum_90 : decode cX1_readSum 90 = .ok (.goto (-63), 3) := by decide +kernel
theorem dX1_readSum_93 : decode cX1_readSum 93 = .ok (.iconst 1, 1) := by decide +kernel
theorem dX1_readSum_94 : decode cX1_readSum 94 = .ok (.ireturn, 1) := by decide +kernel
section
variable {p : Program} {l : Launch} {e : Env} {s : State} {m : MethodId} {args : Array Value} {below : List Frame} {meth : Method} {c : Code} {Q : State → Prop} {G : GG} {A : Nat → Prop} {q : Nat → Nat} {fr : va_W}
def f_X1_readSum_L27 (RS : Int32 → (Nat → Int32) → Int32 → (Nat → Int32) → (Nat → Int32) → Int32 → (Nat → Int32) → (Nat → Int32) → (Nat → Int32) → Int32 → Int32 → Int32 → (Nat → Nat → Int64) → Int32 → Option (Int32 × Int32 × (Nat → Int32) × (Nat → Int32) × Int32 × (Nat → Int32) × (Nat → Int32) × Int32 × Int32 × (Nat → Nat → Int64))) (ze : Int32) (aF : Nat → Int32) (aTp : Nat → Int32) (zln : Int32) (v1 : Int32) : Nat → Int32 → (Nat → Int32) → (Nat → Int32) → Int32 → (Nat → Int32) → (Nat → Int32) → Int32 → Int32 → (Nat → Nat → Int64) → Int32 → Option (Int32 × Int32 × (Nat → Int32) × (Nat → Int32) × Int32 × (Nat → Int32) × (Nat → Int32) × Int32 × Int32 × (Nat → Nat → Int64))
  | 0, _, _, _, _, _, _, _, _, _, _ => none
  | fu + 1, ztc, aTs, aTn, zoc, aOs, aOn, zpl, zfa, M, v2 =>
    if 80 ≤ v2 then
    some (1, ztc, aTs, aTn, zoc, aOs, aOn, zpl, zfa, M)
    else
    (f_X1_letter aTp zln zpl).bind fun z2 =>
    (f_X1_isSign z2).bind fun z3 =>
    if z3 = 0 then
    some (1, ztc, aTs, aTn, zoc, aOs, aOn, zpl, zfa, M)
    else
    (f_X1_letter aTp zln zpl).bind fun z5 =>
    if z5 = 43 then
    (f_X1_readProduct RS ze aF ztc aTs aTn zoc aOs aOn aTp zln (zpl + 1) zfa M v1).bind fun z11 =>
    if z11.1 = 0 then
    some (0, z11.2.1, z11.2.2.1, z11.2.2.2.1, z11.2.2.2.2.1, z11.2.2.2.2.2.1, z11.2.2.2.2.2.2.1, z11.2.2.2.2.2.2.2.1, z11.2.2.2.2.2.2.2.2.1, z11.2.2.2.2.2.2.2.2.2)
    else
    (f_X1_joinProduct ze z11.2.1 z11.2.2.1 z11.2.2.2.1 z11.2.2.2.2.1 z11.2.2.2.2.2.1 z11.2.2.2.2.2.2.1 z11.2.2.2.2.2.2.2.2.2 1 v1).bind fun z13 =>
    if z13.1 = 0 then
    some (0, z13.2.1, z13.2.2.1, z13.2.2.2.1, z13.2.2.2.2.1, z11.2.2.2.2.2.1, z11.2.2.2.2.2.2.1, z11.2.2.2.2.2.2.2.1, z11.2.2.2.2.2.2.2.2.1, z13.2.2.2.2.2)
    else
    f_X1_readSum_L27 RS ze aF aTp zln v1 fu z13.2.1 z13.2.2.1 z13.2.2.2.1 z13.2.2.2.2.1 z11.2.2.2.2.2.1 z11.2.2.2.2.2.2.1 z11.2.2.2.2.2.2.2.1 z11.2.2.2.2.2.2.2.2.1 z13.2.2.2.2.2 (v2 + 1)
    else
    (f_X1_readProduct RS ze aF ztc aTs aTn zoc aOs aOn aTp zln (zpl + 1) zfa M v1).bind fun z7 =>
    if z7.1 = 0 then
    some (0, z7.2.1, z7.2.2.1, z7.2.2.2.1, z7.2.2.2.2.1, z7.2.2.2.2.2.1, z7.2.2.2.2.2.2.1, z7.2.2.2.2.2.2.2.1, z7.2.2.2.2.2.2.2.2.1, z7.2.2.2.2.2.2.2.2.2)
    else
    (f_X1_joinProduct ze z7.2.1 z7.2.2.1 z7.2.2.2.1 z7.2.2.2.2.1 z7.2.2.2.2.2.1 z7.2.2.2.2.2.2.1 z7.2.2.2.2.2.2.2.2.2 0 v1).bind fun z9 =>
    if z9.1 = 0 then
    some (0, z9.2.1, z9.2.2.1, z9.2.2.2.1, z9.2.2.2.2.1, z7.2.2.2.2.2.1, z7.2.2.2.2.2.2.1, z7.2.2.2.2.2.2.2.1, z7.2.2.2.2.2.2.2.2.1, z9.2.2.2.2.2)
    else
    f_X1_readSum_L27 RS ze aF aTp zln v1 fu z9.2.1 z9.2.2.1 z9.2.2.2.1 z9.2.2.2.2.1 z7.2.2.2.2.2.1 z7.2.2.2.2.2.2.1 z7.2.2.2.2.2.2.2.1 z7.2.2.2.2.2.2.2.2.1 z9.2.2.2.2.2 (v2 + 1)
set_option maxHeartbeats 4000000 in
set_option maxRecDepth 100000 in
theorem w_X1_readSum_L27 {d : Nat} {RS : Int32 → (Nat → Int32) → Int32 → (Nat → Int32) → (Nat → Int32) → Int32 → (Nat → Int32) → (Nat → Int32) → (Nat → Int32) → Int32 → Int32 → Int32 → (Nat → Nat → Int64) → Int32 → Option (Int32 × Int32 × (Nat → Int32) × (Nat → Int32) × Int32 × (Nat → Int32) × (Nat → Int32) × Int32 × Int32 × (Nat → Nat → Int64))} {zp : Int32} {ze : Int32} {zf : Int32} {zg : Int32} {zn : Int32} {aG : Nat → Int32} {aW : Nat → Int32} {aR : Nat → Int32} {aN : Nat → Int32} {aF : Nat → Int32} {lC : Nat → Int64} {lS : Nat → Int64} {lP : Nat → Int64} {lX : Nat → Int64} {aTp : Nat → Int32} {zln : Int32} {aSz : Nat → Int32} {zit : Int32} {zip : Int32} {zic : Int32} {zig : Int32} {v1 : Int32}  (F : Fx p s m args meth c cX1_readSum 4 RX1 (some .boolean)) (hA : ∀ q, s.heap.size ≤ q → A q) (hRS : ∀ (fr : va_W) (zp : Int32) (ze : Int32) (zf : Int32) (zg : Int32) (zn : Int32) (aG : Nat → Int32) (aW : Nat → Int32) (aR : Nat → Int32) (aN : Nat → Int32) (aF : Nat → Int32) (lC : Nat → Int64) (lS : Nat → Int64) (lP : Nat → Int64) (lX : Nat → Int64) (ztc : Int32) (aTs : Nat → Int32) (aTn : Nat → Int32) (zoc : Int32) (aOs : Nat → Int32) (aOn : Nat → Int32) (aTp : Nat → Int32) (zln : Int32) (zpl : Int32) (zfa : Int32) (aSz : Nat → Int32) (zit : Int32) (zip : Int32) (zic : Int32) (zig : Int32) (M : Nat → Nat → Int64) (v1 : Int32) (z : Int32 × Int32 × (Nat → Int32) × (Nat → Int32) × Int32 × (Nat → Int32) × (Nat → Int32) × Int32 × Int32 × (Nat → Nat → Int64)), RS ze aF ztc aTs aTn zoc aOs aOn aTp zln zpl zfa M v1 = some z → Ct l G yX1_readSum cX1_readSum 4 (some .boolean) (20 + 4 * d) (600 + 87 * d) [.ref (q 16), .int v1] (kW G q zp ze zf zg zn aG aW aR aN aF lC lS lP lX ++ (oW G q ztc aTs aTn zoc aOs aOn aTp zln zpl zfa aSz zit zip zic zig M ++ fr)) (some (.int z.1)) (kW G q zp ze zf zg zn aG aW aR aN aF lC lS lP lX ++ (oW G q z.2.1 z.2.2.1 z.2.2.2.1 z.2.2.2.2.1 z.2.2.2.2.2.1 z.2.2.2.2.2.2.1 aTp zln z.2.2.2.2.2.2.2.1 z.2.2.2.2.2.2.2.2.1 aSz zit zip zic zig z.2.2.2.2.2.2.2.2.2 ++ fr)))  : ∀ (fu : Nat) (ztc : Int32) (aTs : Nat → Int32) (aTn : Nat → Int32) (zoc : Int32) (aOs : Nat → Int32) (aOn : Nat → Int32) (zpl : Int32) (zfa : Int32) (M : Nat → Nat → Int64) (v2 : Int32) (z : Int32 × Int32 × (Nat → Int32) × (Nat → Int32) × Int32 × (Nat → Int32) × (Nat → Int32) × Int32 × Int32 × (Nat → Nat → Int64)), f_X1_readSum_L27 RS ze aF aTp zln v1 fu ztc aTs aTn zoc aOs aOn zpl zfa M v2 = some z → Ends p l e (rmOf (20 + 4 * d + 4) (600 + 87 * d + 87)) s m args below meth c Q cX1_readSum G A (some .boolean) (some (.int z.1)) (kW G q zp ze zf zg zn aG aW aR aN aF lC lS lP lX ++ (oW G q z.2.1 z.2.2.1 z.2.2.2.1 z.2.2.2.2.1 z.2.2.2.2.2.1 z.2.2.2.2.2.2.1 aTp zln z.2.2.2.2.2.2.2.1 z.2.2.2.2.2.2.2.2.1 aSz zit zip zic zig z.2.2.2.2.2.2.2.2.2 ++ fr)) → ∀ (H : Heap) (locs : List Loc) (ls : Array Slot), Wd G s A (kW G q zp ze zf zg zn aG aW aR aN aF lC lS lP lX ++ (oW G q ztc aTs aTn zoc aOs aOn aTp zln zpl zfa aSz zit zip zic zig M ++ fr)) H locs → lv_has ls 4 [(0, .ref (q 16)), (1, .int v1), (2, .int v2)] → W p l e (rmOf (20 + 4 * d + 4) (600 + 87 * d + 87)) s m args below meth c H locs 0 0 Q (F0 m 27 ls []) := by
  have hx := F.x
  have hb := F.b
  intro fu
  induction fu with
  | zero =>
    intro ztc aTs aTn zoc aOs aOn zpl zfa M v2 z h
    cases (h : none = some z)
  | succ fu ih =>
    intro ztc aTs aTn zoc aOs aOn zpl zfa M v2 z h hE H locs ls hw hl
    rw [f_X1_readSum_L27] at h
    refine lv_iload_n hx hb dX1_readSum_27 rfl (lv_at hl 2 rfl) ?_
    refine lv_bipush (v := 80) hx hb dX1_readSum_28 (by decide) ?_
    refine lv_icmp_ge (tgt := 93) hx hb dX1_readSum_30 (by decide) (fun c1 => ?_) (fun c1 => ?_)
    · replace h := stT c1 h
      refine lv_iconst (v := 1) hx hb dX1_readSum_93 (by decide) ?_
      obtain rfl := Option.some.inj h
      exact hE H locs _ ls hw (Or.inr rfl) dX1_readSum_94
    · replace h := stF c1 h
      refine lv_aload_n hx hb dX1_readSum_33 rfl (lv_at hl 0 rfl) ?_
      obtain ⟨z2, hz2, h⟩ := stB h
      refine ctV (av := []) (st0 := ([] : List Value)) (st1 := ([.int z2] : List Value)) F hw hA (k_X1_letter hz2) kl_1_52 kd_X1_letter rfl ⟨by omega, by omega⟩ 16 rfl rfl hl.1 rfl (Nat.le_of_ble_eq_true rfl) dX1_readSum_34 rfl (fun H locs hw => ?_)
      obtain ⟨z3, hz3, h⟩ := stB h
      refine ctS (av := [.int z2]) (st0 := ([] : List Value)) (st1 := ([.int z3] : List Value)) F hw hA (k_X1_isSign hz3) kl_1_66 kd_X1_isSign rfl ⟨by omega, by omega⟩ hl.1 rfl (Nat.le_of_ble_eq_true rfl) dX1_readSum_37 rfl (fun H locs hw => ?_)
      refine lv_if_eq (tgt := 93) hx hb dX1_readSum_40 (by decide) (fun c4 => ?_) (fun c4 => ?_)
      · replace h := stT c4 h
        refine lv_iconst (v := 1) hx hb dX1_readSum_93 (by decide) ?_
        obtain rfl := Option.some.inj h
        exact hE H locs _ ls hw (Or.inr rfl) dX1_readSum_94
      · replace h := stF c4 h
        refine lv_aload_n hx hb dX1_readSum_43 rfl (lv_at hl 0 rfl) ?_
        obtain ⟨z5, hz5, h⟩ := stB h
        refine ctV (av := []) (st0 := ([] : List Value)) (st1 := ([.int z5] : List Value)) F hw hA (k_X1_letter hz5) kl_1_52 kd_X1_letter rfl ⟨by omega, by omega⟩ 16 rfl rfl hl.1 rfl (Nat.le_of_ble_eq_true rfl) dX1_readSum_44 rfl (fun H locs hw => ?_)
        refine lv_bipush (v := 43) hx hb dX1_readSum_47 (by decide) ?_
        refine lv_icmp_ne (tgt := 56) hx hb dX1_readSum_49 (by decide) (fun c6 => ?_) (fun c6 => ?_)
        · replace h := stF c6 h
          refine lv_iconst (v := 0) hx hb dX1_readSum_56 (by decide) ?_
          refine lv_istore_n (lv' := [(3, .int 0), (0, .ref (q 16)), (1, .int v1), (2, .int v2)]) hx hb dX1_readSum_57 rfl hl (by decide) rfl (fun ls hl => ?_)
          refine lv_aload_n hx hb dX1_readSum_58 rfl (lv_at hl 1 rfl) ?_
          refine lv_dup hx hb dX1_readSum_59 rfl ?_
          refine gf_1_42 F hw dX1_readSum_60 ?_
          refine lv_iconst (v := 1) hx hb dX1_readSum_63 (by decide) ?_
          refine lv_iadd hx hb dX1_readSum_64 ?_
          refine pf_1_42 F hw dX1_readSum_65 (fun H locs hw => ?_)
          refine lv_aload_n hx hb dX1_readSum_68 rfl (lv_at hl 1 rfl) ?_
          refine lv_iload_n hx hb dX1_readSum_69 rfl (lv_at hl 2 rfl) ?_
          obtain ⟨z7, hz7, h⟩ := stB h
          refine ctV (av := [.int v1]) (st0 := ([] : List Value)) (st1 := ([.int z7.1] : List Value)) F hw hA (k_X1_readProduct hRS hz7) kl_1_63 kd_X1_readProduct rfl ⟨by omega, by omega⟩ 16 rfl rfl hl.1 rfl (Nat.le_of_ble_eq_true rfl) dX1_readSum_70 rfl (fun H locs hw => ?_)
          refine lv_if_eq (tgt := 85) hx hb dX1_readSum_73 (by decide) (fun c8 => ?_) (fun c8 => ?_)
          · replace h := stT c8 h
            refine lv_iconst (v := 0) hx hb dX1_readSum_85 (by decide) ?_
            obtain rfl := Option.some.inj h
            exact hE H locs _ ls hw (Or.inl rfl) dX1_readSum_86
          · replace h := stF c8 h
            refine lv_aload_n hx hb dX1_readSum_76 rfl (lv_at hl 1 rfl) ?_
            refine lv_iload_n hx hb dX1_readSum_77 rfl (lv_at hl 0 rfl) ?_
            refine lv_iload_n hx hb dX1_readSum_78 rfl (lv_at hl 2 rfl) ?_
            obtain ⟨z9, hz9, h⟩ := stB h
            refine ctV (av := [.int 0, .int v1]) (st0 := ([] : List Value)) (st1 := ([.int z9.1] : List Value)) F hw hA (k_X1_joinProduct hz9) kl_1_69 kd_X1_joinProduct rfl ⟨by omega, by omega⟩ 16 rfl rfl hl.1 rfl (Nat.le_of_ble_eq_true rfl) dX1_readSum_79 rfl (fun H locs hw => ?_)
            refine lv_if_ne (tgt := 87) hx hb dX1_readSum_82 (by decide) (fun c10 => ?_) (fun c10 => ?_)
            · replace h := stF c10 h
              refine lv_iinc (v := (v2 + 1)) (lv' := [(2, .int (v2 + 1)), (3, .int 0), (0, .ref (q 16)), (1, .int v1)]) hx hb dX1_readSum_87 hl (k := 3) rfl rfl (by decide) rfl (fun ls hl => ?_)
              refine lv_goto (tgt := 27) hx hb dX1_readSum_90 (by decide) ?_
              exact ih _ _ _ _ _ _ _ _ _ _ z h hE H locs ls hw (lv_sub hl [2, 3, 0] rfl)
            · replace h := stT c10 h
              refine lv_iconst (v := 0) hx hb dX1_readSum_85 (by decide) ?_
              obtain rfl := Option.some.inj h
              exact hE H locs _ ls hw (Or.inl rfl) dX1_readSum_86
        · replace h := stT c6 h
          refine lv_iconst (v := 1) hx hb dX1_readSum_52 (by decide) ?_
          refine lv_goto (tgt := 57) hx hb dX1_readSum_53 (by decide) ?_
          refine lv_istore_n (lv' := [(3, .int 1), (0, .ref (q 16)), (1, .int v1), (2, .int v2)]) hx hb dX1_readSum_57 rfl hl (by decide) rfl (fun ls hl => ?_)
          refine lv_aload_n hx hb dX1_readSum_58 rfl (lv_at hl 1 rfl) ?_
          refine lv_dup hx hb dX1_readSum_59 rfl ?_
          refine gf_1_42 F hw dX1_readSum_60 ?_
          refine lv_iconst (v := 1) hx hb dX1_readSum_63 (by decide) ?_
          refine lv_iadd hx hb dX1_readSum_64 ?_
          refine pf_1_42 F hw dX1_readSum_65 (fun H locs hw => ?_)
          refine lv_aload_n hx hb dX1_readSum_68 rfl (lv_at hl 1 rfl) ?_
          refine lv_iload_n hx hb dX1_readSum_69 rfl (lv_at hl 2 rfl) ?_
          obtain ⟨z11, hz11, h⟩ := stB h
          refine ctV (av := [.int v1]) (st0 := ([] : List Value)) (st1 := ([.int z11.1] : List Value)) F hw hA (k_X1_readProduct hRS hz11) kl_1_63 kd_X1_readProduct rfl ⟨by omega, by omega⟩ 16 rfl rfl hl.1 rfl (Nat.le_of_ble_eq_true rfl) dX1_readSum_70 rfl (fun H locs hw => ?_)
          refine lv_if_eq (tgt := 85) hx hb dX1_readSum_73 (by decide) (fun c12 => ?_) (fun c12 => ?_)
          · replace h := stT c12 h
            refine lv_iconst (v := 0) hx hb dX1_readSum_85 (by decide) ?_
            obtain rfl := Option.some.inj h
            exact hE H locs _ ls hw (Or.inl rfl) dX1_readSum_86
          · replace h := stF c12 h
            refine lv_aload_n hx hb dX1_readSum_76 rfl (lv_at hl 1 rfl) ?_
            refine lv_iload_n hx hb dX1_readSum_77 rfl (lv_at hl 0 rfl) ?_
            refine lv_iload_n hx hb dX1_readSum_78 rfl (lv_at hl 2 rfl) ?_
            obtain ⟨z13, hz13, h⟩ := stB h
            refine ctV (av := [.int 1, .int v1]) (st0 := ([] : List Value)) (st1 := ([.int z13.1] : List Value)) F hw hA (k_X1_joinProduct hz13) kl_1_69 kd_X1_joinProduct rfl ⟨by omega, by omega⟩ 16 rfl rfl hl.1 rfl (Nat.le_of_ble_eq_true rfl) dX1_readSum_79 rfl (fun H locs hw => ?_)
            refine lv_if_ne (tgt := 87) hx hb dX1_readSum_82 (by decide) (fun c14 => ?_) (fun c14 => ?_)
            · replace h := stF c14 h
              refine lv_iinc (v := (v2 + 1)) (lv' := [(2, .int (v2 + 1)), (3, .int 1), (0, .ref (q 16)), (1, .int v1)]) hx hb dX1_readSum_87 hl (k := 3) rfl rfl (by decide) rfl (fun ls hl => ?_)
              refine lv_goto (tgt := 27) hx hb dX1_readSum_90 (by decide) ?_
              exact ih _ _ _ _ _ _ _ _ _ _ z h hE H locs ls hw (lv_sub hl [2, 3, 0] rfl)
            · replace h := stT c14 h
              refine lv_iconst (v := 0) hx hb dX1_readSum_85 (by decide) ?_
              obtain rfl := Option.some.inj h
              exact hE H locs _ ls hw (Or.inl rfl) dX1_readSum_86
def f_X1_readSumB (RS : Int32 → (Nat → Int32) → Int32 → (Nat → Int32) → (Nat → Int32) → Int32 → (Nat → Int32) → (Nat → Int32) → (Nat → Int32) → Int32 → Int32 → Int32 → (Nat → Nat → Int64) → Int32 → Option (Int32 × Int32 × (Nat → Int32) × (Nat → Int32) × Int32 × (Nat → Int32) × (Nat → Int32) × Int32 × Int32 × (Nat → Nat → Int64))) (ze : Int32) (aF : Nat → Int32) (ztc : Int32) (aTs : Nat → Int32) (aTn : Nat → Int32) (zoc : Int32) (aOs : Nat → Int32) (aOn : Nat → Int32) (aTp : Nat → Int32) (zln : Int32) (zpl : Int32) (zfa : Int32) (M : Nat → Nat → Int64) (v1 : Int32) : Option (Int32 × Int32 × (Nat → Int32) × (Nat → Int32) × Int32 × (Nat → Int32) × (Nat → Int32) × Int32 × Int32 × (Nat → Nat → Int64)) :=
  (f_X1_readProduct RS ze aF ztc aTs aTn zoc aOs aOn aTp zln zpl zfa M v1).bind fun z1 =>
  if z1.1 = 0 then
  some (0, z1.2.1, z1.2.2.1, z1.2.2.2.1, z1.2.2.2.2.1, z1.2.2.2.2.2.1, z1.2.2.2.2.2.2.1, z1.2.2.2.2.2.2.2.1, z1.2.2.2.2.2.2.2.2.1, z1.2.2.2.2.2.2.2.2.2)
  else
  if inb v1 6 then
  if inb v1 6 then
  (f_X4_copyRow z1.2.2.2.2.2.2.2.2.2 (17 + v1.toNatClampNeg) (11 + v1.toNatClampNeg)).bind fun z5 =>
  f_X1_readSum_L27 RS ze aF aTp zln v1 FU z1.2.1 z1.2.2.1 z1.2.2.2.1 z1.2.2.2.2.1 z1.2.2.2.2.2.1 z1.2.2.2.2.2.2.1 z1.2.2.2.2.2.2.2.1 z1.2.2.2.2.2.2.2.2.1 z5 0
  else none
  else none
set_option maxHeartbeats 4000000 in
set_option maxRecDepth 100000 in
theorem k_X1_readSumB {l : Launch} {G : GG} {q : Nat → Nat} {fr : va_W} {d : Nat} {RS : Int32 → (Nat → Int32) → Int32 → (Nat → Int32) → (Nat → Int32) → Int32 → (Nat → Int32) → (Nat → Int32) → (Nat → Int32) → Int32 → Int32 → Int32 → (Nat → Nat → Int64) → Int32 → Option (Int32 × Int32 × (Nat → Int32) × (Nat → Int32) × Int32 × (Nat → Int32) × (Nat → Int32) × Int32 × Int32 × (Nat → Nat → Int64))} {zp : Int32} {ze : Int32} {zf : Int32} {zg : Int32} {zn : Int32} {aG : Nat → Int32} {aW : Nat → Int32} {aR : Nat → Int32} {aN : Nat → Int32} {aF : Nat → Int32} {lC : Nat → Int64} {lS : Nat → Int64} {lP : Nat → Int64} {lX : Nat → Int64} {ztc : Int32} {aTs : Nat → Int32} {aTn : Nat → Int32} {zoc : Int32} {aOs : Nat → Int32} {aOn : Nat → Int32} {aTp : Nat → Int32} {zln : Int32} {zpl : Int32} {zfa : Int32} {aSz : Nat → Int32} {zit : Int32} {zip : Int32} {zic : Int32} {zig : Int32} {M : Nat → Nat → Int64} {v1 : Int32} {z : Int32 × Int32 × (Nat → Int32) × (Nat → Int32) × Int32 × (Nat → Int32) × (Nat → Int32) × Int32 × Int32 × (Nat → Nat → Int64)} (hRS : ∀ (fr : va_W) (zp : Int32) (ze : Int32) (zf : Int32) (zg : Int32) (zn : Int32) (aG : Nat → Int32) (aW : Nat → Int32) (aR : Nat → Int32) (aN : Nat → Int32) (aF : Nat → Int32) (lC : Nat → Int64) (lS : Nat → Int64) (lP : Nat → Int64) (lX : Nat → Int64) (ztc : Int32) (aTs : Nat → Int32) (aTn : Nat → Int32) (zoc : Int32) (aOs : Nat → Int32) (aOn : Nat → Int32) (aTp : Nat → Int32) (zln : Int32) (zpl : Int32) (zfa : Int32) (aSz : Nat → Int32) (zit : Int32) (zip : Int32) (zic : Int32) (zig : Int32) (M : Nat → Nat → Int64) (v1 : Int32) (z : Int32 × Int32 × (Nat → Int32) × (Nat → Int32) × Int32 × (Nat → Int32) × (Nat → Int32) × Int32 × Int32 × (Nat → Nat → Int64)), RS ze aF ztc aTs aTn zoc aOs aOn aTp zln zpl zfa M v1 = some z → Ct l G yX1_readSum cX1_readSum 4 (some .boolean) (20 + 4 * d) (600 + 87 * d) [.ref (q 16), .int v1] (kW G q zp ze zf zg zn aG aW aR aN aF lC lS lP lX ++ (oW G q ztc aTs aTn zoc aOs aOn aTp zln zpl zfa aSz zit zip zic zig M ++ fr)) (some (.int z.1)) (kW G q zp ze zf zg zn aG aW aR aN aF lC lS lP lX ++ (oW G q z.2.1 z.2.2.1 z.2.2.2.1 z.2.2.2.2.1 z.2.2.2.2.2.1 z.2.2.2.2.2.2.1 aTp zln z.2.2.2.2.2.2.2.1 z.2.2.2.2.2.2.2.2.1 aSz zit zip zic zig z.2.2.2.2.2.2.2.2.2 ++ fr))) (h : f_X1_readSumB RS ze aF ztc aTs aTn zoc aOs aOn aTp zln zpl zfa M v1 = some z) : Ct l G yX1_readSum cX1_readSum 4 (some .boolean) (20 + 4 * d + 4) (600 + 87 * d + 87) [.ref (q 16), .int v1] (kW G q zp ze zf zg zn aG aW aR aN aF lC lS lP lX ++ (oW G q ztc aTs aTn zoc aOs aOn aTp zln zpl zfa aSz zit zip zic zig M ++ fr)) (some (.int z.1)) (kW G q zp ze zf zg zn aG aW aR aN aF lC lS lP lX ++ (oW G q z.2.1 z.2.2.1 z.2.2.2.1 z.2.2.2.2.1 z.2.2.2.2.2.1 z.2.2.2.2.2.2.1 aTp zln z.2.2.2.2.2.2.2.1 z.2.2.2.2.2.2.2.2.1 aSz zit zip zic zig z.2.2.2.2.2.2.2.2.2 ++ fr)) := by
  refine Ct.of (by decide +kernel) (Nat.le_of_ble_eq_true rfl) trivial ?_
  intro p e s m args below meth c Q A ls F hw hA hE hl
  have hx := F.x
  have hb := F.b
  unfold f_X1_readSumB at h
  obtain ⟨H, hH⟩ : ∃ H, H = s.heap := ⟨_, rfl⟩
  obtain ⟨locs, hlo⟩ : ∃ locs : List Loc, locs = [] := ⟨_, rfl⟩
  rw [← hH, ← hlo] at hw ⊢
  have hl : lv_has ls 4 [(0, .ref (q 16)), (1, .int v1)] := hl
  refine lv_aload_n hx hb dX1_readSum_0 rfl (lv_at hl 0 rfl) ?_
  refine lv_iload_n hx hb dX1_readSum_1 rfl (lv_at hl 1 rfl) ?_
  obtain ⟨z1, hz1, h⟩ := stB h
  refine ctV (av := [.int v1]) (st0 := ([] : List Value)) (st1 := ([.int z1.1] : List Value)) F hw hA (k_X1_readProduct hRS hz1) kl_1_63 kd_X1_readProduct rfl ⟨by omega, by omega⟩ 16 rfl rfl hl.1 rfl (Nat.le_of_ble_eq_true rfl) dX1_readSum_2 rfl (fun H locs hw => ?_)
  refine lv_if_ne (tgt := 10) hx hb dX1_readSum_5 (by decide) (fun c2 => ?_) (fun c2 => ?_)
  · replace h := stF c2 h
    refine lv_aload_n hx hb dX1_readSum_10 rfl (lv_at hl 0 rfl) ?_
    refine gf_1_20 F hw dX1_readSum_11 ?_
    refine lv_iload_n hx hb dX1_readSum_14 rfl (lv_at hl 1 rfl) ?_
    obtain ⟨g3, h⟩ := stG h
    refine aq_c19 F hw g3 dX1_readSum_15 ?_
    refine lv_aload_n hx hb dX1_readSum_16 rfl (lv_at hl 0 rfl) ?_
    refine gf_1_17 F hw dX1_readSum_17 ?_
    refine lv_iload_n hx hb dX1_readSum_20 rfl (lv_at hl 1 rfl) ?_
    obtain ⟨g4, h⟩ := stG h
    refine aq_c18 F hw g4 dX1_readSum_21 ?_
    obtain ⟨z5, hz5, h⟩ := stB h
    refine ctSN (av := [.ref (q (26 + (17 + v1.toNatClampNeg))), .ref (q (26 + (11 + v1.toNatClampNeg)))]) (st0 := ([] : List Value)) (st1 := ([] : List Value)) (host := RX4) F hw hA (k_X4_copyRow (Nat.lt_of_lt_of_le (Nat.add_lt_add_left (inb_lt g3) 17) (by decide)) (Nat.lt_of_lt_of_le (Nat.add_lt_add_left (inb_lt g4) 11) (by decide)) hz5) (by decide +kernel) kn_X4_copyRow ki_4 ks_X4_copyRow kd_X4_copyRow rfl ⟨by omega, by omega⟩ hl.1 rfl (Nat.le_of_ble_eq_true rfl) dX1_readSum_22 rfl (fun H locs hw => ?_)
    refine lv_iconst (v := 0) hx hb dX1_readSum_25 (by decide) ?_
    refine lv_istore_n (lv' := [(2, .int 0), (0, .ref (q 16)), (1, .int v1)]) hx hb dX1_readSum_26 rfl hl (by decide) rfl (fun ls hl => ?_)
    exact w_X1_readSum_L27 F hA hRS FU _ _ _ _ _ _ _ _ _ _ z h hE H locs ls hw (lv_sub hl [1, 2, 0] rfl)
  · replace h := stT c2 h
    refine lv_iconst (v := 0) hx hb dX1_readSum_8 (by decide) ?_
    obtain rfl := Option.some.inj h
    exact hE H locs _ ls hw (Or.inl rfl) dX1_readSum_9
end
def f_X1_readSum : Nat → Int32 → (Nat → Int32) → Int32 → (Nat → Int32) → (Nat → Int32) → Int32 → (Nat → Int32) → (Nat → Int32) → (Nat → Int32) → Int32 → Int32 → Int32 → (Nat → Nat → Int64) → Int32 → Option (Int32 × Int32 × (Nat → Int32) × (Nat → Int32) × Int32 × (Nat → Int32) × (Nat → Int32) × Int32 × Int32 × (Nat → Nat → Int64))
  | 0, _, _, _, _, _, _, _, _, _, _, _, _, _, _ => none
  | d + 1, ze, aF, ztc, aTs, aTn, zoc, aOs, aOn, aTp, zln, zpl, zfa, M, v1 => f_X1_readSumB (f_X1_readSum d) ze aF ztc aTs aTn zoc aOs aOn aTp zln zpl zfa M v1
theorem k_X1_readSum {l : Launch} {G : GG} {q : Nat → Nat} : ∀ (d : Nat) (fr : va_W) (zp : Int32) (ze : Int32) (zf : Int32) (zg : Int32) (zn : Int32) (aG : Nat → Int32) (aW : Nat → Int32) (aR : Nat → Int32) (aN : Nat → Int32) (aF : Nat → Int32) (lC : Nat → Int64) (lS : Nat → Int64) (lP : Nat → Int64) (lX : Nat → Int64) (ztc : Int32) (aTs : Nat → Int32) (aTn : Nat → Int32) (zoc : Int32) (aOs : Nat → Int32) (aOn : Nat → Int32) (aTp : Nat → Int32) (zln : Int32) (zpl : Int32) (zfa : Int32) (aSz : Nat → Int32) (zit : Int32) (zip : Int32) (zic : Int32) (zig : Int32) (M : Nat → Nat → Int64) (v1 : Int32) (z : Int32 × Int32 × (Nat → Int32) × (Nat → Int32) × Int32 × (Nat → Int32) × (Nat → Int32) × Int32 × Int32 × (Nat → Nat → Int64)), f_X1_readSum d ze aF ztc aTs aTn zoc aOs aOn aTp zln zpl zfa M v1 = some z → Ct l G yX1_readSum cX1_readSum 4 (some .boolean) (20 + 4 * d) (600 + 87 * d) [.ref (q 16), .int v1] (kW G q zp ze zf zg zn aG aW aR aN aF lC lS lP lX ++ (oW G q ztc aTs aTn zoc aOs aOn aTp zln zpl zfa aSz zit zip zic zig M ++ fr)) (some (.int z.1)) (kW G q zp ze zf zg zn aG aW aR aN aF lC lS lP lX ++ (oW G q z.2.1 z.2.2.1 z.2.2.2.1 z.2.2.2.2.1 z.2.2.2.2.2.1 z.2.2.2.2.2.2.1 aTp zln z.2.2.2.2.2.2.2.1 z.2.2.2.2.2.2.2.2.1 aSz zit zip zic zig z.2.2.2.2.2.2.2.2.2 ++ fr)) := by
  intro d
  induction d with
  | zero =>
    intro fr zp ze zf zg zn aG aW aR aN aF lC lS lP lX ztc aTs aTn zoc aOs aOn aTp zln zpl zfa aSz zit zip zic zig M v1 z h
    cases (h : none = some z)
  | succ d ih =>
    intro fr zp ze zf zg zn aG aW aR aN aF lC lS lP lX ztc aTs aTn zoc aOs aOn aTp zln zpl zfa aSz zit zip zic zig M v1 z h
    rw [show 20 + 4 * (d + 1) = 20 + 4 * d + 4 from by omega, show 600 + 87 * (d + 1) = 600 + 87 * d + 87 from by omega]
    exact k_X1_readSumB ih h
theorem dX1_readTo_0 : decode cX1_readTo 0 = .ok (.aload_n 0, 1) := by decide +kernel
theorem dX1_readTo_1 : decode cX1_readTo 1 = .ok (.iconst 0, 1) := by decide +kernel
theorem dX1_readTo_2 : decode cX1_readTo 2 = .ok (.putfield 42, 3) := by decide +kernel
theorem dX1_readTo_5 : decode cX1_readTo 5 = .ok (.aload_n 0, 1) := by decide +kernel
theorem dX1_readTo_6 : decode cX1_readTo 6 = .ok (.iconst (-1), 1) := by decide +kernel
theorem dX1_readTo_7 : decode cX1_readTo 7 = .ok (.putfield 45, 3) := by decide +kernel
theorem dX1_readTo_10 : decode cX1_readTo 10 = .ok (.aload_n 0, 1) := by decide +kernel
theorem dX1_readTo_11 : decode cX1_readTo 11 = .ok (.iconst 0, 1) := by decide +kernel
theorem dX1_readTo_12 : decode cX1_readTo 12 = .ok (.invokevirtual 48, 3) := by decide +kernel
theorem dX1_readTo_15 : decode cX1_readTo 15 = .ok (.ifCond .eq 34, 3) := by decide +kernel
theorem dX1_readTo_18 : decode cX1_readTo 18 = .ok (.aload_n 0, 1) := by decide +kernel
theorem dX1_readTo_19 : decode cX1_readTo 19 = .ok (.invokevirtual 52, 3) := by decide +kernel
theorem dX1_readTo_22 : decode cX1_readTo 22 = .ok (.iconst (-1), 1) := by decide +kernel
theorem dX1_readTo_23 : decode cX1_readTo 23 = .ok (.if_icmp .eq 14, 3) := by decide +kernel
theorem dX1_readTo_26 : decode cX1_readTo 26 = .ok (.aload_n 0, 1) := by decide +kernel
theorem dX1_readTo_27 : decode cX1_readTo 27 = .ok (.aload_n 0, 1) := by decide +kernel
theorem dX1_readTo_28 : decode cX1_readTo 28 = .ok (.getfield 42, 3) := by decide +kernel
theorem dX1_readTo_31 : decode cX1_readTo 31 = .ok (.invokevirtual 56, 3) := by decide +kernel
theorem dX1_readTo_34 : decode cX1_readTo 34 = .ok (.ifCond .eq 15, 3) := by decide +kernel
theorem dX1_readTo_37 : decode cX1_readTo 37 = .ok (.aload_n 0, 1) := by decide +kernel
theorem dX1_readTo_38 : decode cX1_readTo 38 = .ok (.getfield 17, 3) := by decide +kernel
theorem dX1_readTo_41 : decode cX1_readTo 41 = .ok (.iconst 0, 1) := by decide +kernel
theorem dX1_readTo_42 : decode cX1_readTo 42 = .ok (.aaload, 1) := by decide +kernel
theorem dX1_readTo_43 : decode cX1_readTo 43 = .ok (.aload_n 1, 1) := by decide +kernel
theorem dX1_readTo_44 : decode cX1_readTo 44 = .ok (.invokestatic 59, 3) := by decide +kernel
theorem dX1_readTo_47 : decode cX1_readTo 47 = .ok (.iconst 1, 1) := by decide +kernel
theorem dX1_readTo_48 : decode cX1_readTo 48 = .ok (.ireturn, 1) := by decide +kernel
theorem dX1_readTo_49 : decode cX1_readTo 49 = .ok (.aload_n 0, 1) := by decide +kernel
theorem dX1_readTo_50 : decode cX1_readTo 50 = .ok (.getfield 45, 3) := by decide +kernel
theorem dX1_readTo_53 : decode cX1_readTo 53 = .ok (.iconst (-1), 1) := by decide +kernel
theorem dX1_readTo_54 : decode cX1_readTo 54 = .ok (.if_icmp .ne 8, 3) := by decide +kernel
theorem dX1_readTo_57 : decode cX1_readTo 57 = .ok (.bipush (-9), 2) := by decide +kernel
theorem dX1_readTo_59 : decode cX1_readTo 59 = .ok (.goto 10, 3) := by decide +kernel
theorem dX1_readTo_62 : decode cX1_readTo 62 = .ok (.bipush (-100), 2) := by decide +kernel
theorem dX1_readTo_64 : decode cX1_readTo 64 = .ok (.aload_n 0, 1) := by decide +kernel
theorem dX1_readTo_65 : decode cX1_readTo 65 = .ok (.getfield 45, 3) := by decide +kernel
theorem dX1_readTo_68 : decode cX1_readTo 68 = .ok (.isub, 1) := by decide +kernel
theorem dX1_readTo_69 : decode cX1_readTo 69 = .ok (.ireturn, 1) := by decide +kernel
section
variable {p : Program} {l : Launch} {e : Env} {s : State} {m : MethodId} {args : Array Value} {below : List Frame} {meth : Method} {c : Code} {Q : State → Prop} {G : GG} {A : Nat → Prop} {q : Nat → Nat} {fr : va_W}
def f_X1_readTo (ze : Int32) (aF : Nat → Int32) (ztc : Int32) (aTs : Nat → Int32) (aTn : Nat → Int32) (zoc : Int32) (aOs : Nat → Int32) (aOn : Nat → Int32) (aTp : Nat → Int32) (zln : Int32) (zpl : Int32) (zfa : Int32) (M : Nat → Nat → Int64) (r1 : Nat) : Option (Int32 × Int32 × (Nat → Int32) × (Nat → Int32) × Int32 × (Nat → Int32) × (Nat → Int32) × Int32 × Int32 × (Nat → Nat → Int64)) :=
  (f_X1_readSum 7 ze aF ztc aTs aTn zoc aOs aOn aTp zln 0 (-1) M 0).bind fun z1 =>
  if z1.1 = 0 then
  if z1.2.2.2.2.2.2.2.2.1 = (-1) then
  some ((-9), z1.2.1, z1.2.2.1, z1.2.2.2.1, z1.2.2.2.2.1, z1.2.2.2.2.2.1, z1.2.2.2.2.2.2.1, z1.2.2.2.2.2.2.2.1, z1.2.2.2.2.2.2.2.2.1, z1.2.2.2.2.2.2.2.2.2)
  else
  some (((-100) - z1.2.2.2.2.2.2.2.2.1), z1.2.1, z1.2.2.1, z1.2.2.2.1, z1.2.2.2.2.1, z1.2.2.2.2.2.1, z1.2.2.2.2.2.2.1, z1.2.2.2.2.2.2.2.1, z1.2.2.2.2.2.2.2.2.1, z1.2.2.2.2.2.2.2.2.2)
  else
  (f_X1_letter aTp zln z1.2.2.2.2.2.2.2.1).bind fun z4 =>
  if z4 = (-1) then
  if inb 0 6 then
  (f_X4_copyRow z1.2.2.2.2.2.2.2.2.2 (11 + (0 : Int32).toNatClampNeg) r1).bind fun z7 =>
  some (1, z1.2.1, z1.2.2.1, z1.2.2.2.1, z1.2.2.2.2.1, z1.2.2.2.2.2.1, z1.2.2.2.2.2.2.1, z1.2.2.2.2.2.2.2.1, z1.2.2.2.2.2.2.2.2.1, z7)
  else none
  else
  (f_X1_faultAt z1.2.1 z1.2.2.1 z1.2.2.2.1 z1.2.2.2.2.1 z1.2.2.2.2.2.1 z1.2.2.2.2.2.2.1 z1.2.2.2.2.2.2.2.2.1 z1.2.2.2.2.2.2.2.1).bind fun z8 =>
  if z8.1 = 0 then
  if z8.2.2.2.2.2 = (-1) then
  some ((-9), z8.2.1, z8.2.2.1, z8.2.2.2.1, z8.2.2.2.2.1, z1.2.2.2.2.2.1, z1.2.2.2.2.2.2.1, z1.2.2.2.2.2.2.2.1, z8.2.2.2.2.2, z1.2.2.2.2.2.2.2.2.2)
  else
  some (((-100) - z8.2.2.2.2.2), z8.2.1, z8.2.2.1, z8.2.2.2.1, z8.2.2.2.2.1, z1.2.2.2.2.2.1, z1.2.2.2.2.2.2.1, z1.2.2.2.2.2.2.2.1, z8.2.2.2.2.2, z1.2.2.2.2.2.2.2.2.2)
  else
  if inb 0 6 then
  (f_X4_copyRow z1.2.2.2.2.2.2.2.2.2 (11 + (0 : Int32).toNatClampNeg) r1).bind fun z12 =>
  some (1, z8.2.1, z8.2.2.1, z8.2.2.2.1, z8.2.2.2.2.1, z1.2.2.2.2.2.1, z1.2.2.2.2.2.2.1, z1.2.2.2.2.2.2.2.1, z8.2.2.2.2.2, z12)
  else none
set_option maxHeartbeats 4000000 in
set_option maxRecDepth 100000 in
theorem k_X1_readTo {l : Launch} {G : GG} {q : Nat → Nat} {fr : va_W}  {zp : Int32} {ze : Int32} {zf : Int32} {zg : Int32} {zn : Int32} {aG : Nat → Int32} {aW : Nat → Int32} {aR : Nat → Int32} {aN : Nat → Int32} {aF : Nat → Int32} {lC : Nat → Int64} {lS : Nat → Int64} {lP : Nat → Int64} {lX : Nat → Int64} {ztc : Int32} {aTs : Nat → Int32} {aTn : Nat → Int32} {zoc : Int32} {aOs : Nat → Int32} {aOn : Nat → Int32} {aTp : Nat → Int32} {zln : Int32} {zpl : Int32} {zfa : Int32} {aSz : Nat → Int32} {zit : Int32} {zip : Int32} {zic : Int32} {zig : Int32} {M : Nat → Nat → Int64} {r1 : Nat} {z : Int32 × Int32 × (Nat → Int32) × (Nat → Int32) × Int32 × (Nat → Int32) × (Nat → Int32) × Int32 × Int32 × (Nat → Nat → Int64)} (hr1 : r1 < 32) (h : f_X1_readTo ze aF ztc aTs aTn zoc aOs aOn aTp zln zpl zfa M r1 = some z) : Ct l G yX1_readTo cX1_readTo 2 (some .int) 49 1232 [.ref (q 16), .ref (q (26 + r1))] (kW G q zp ze zf zg zn aG aW aR aN aF lC lS lP lX ++ (oW G q ztc aTs aTn zoc aOs aOn aTp zln zpl zfa aSz zit zip zic zig M ++ fr)) (some (.int z.1)) (kW G q zp ze zf zg zn aG aW aR aN aF lC lS lP lX ++ (oW G q z.2.1 z.2.2.1 z.2.2.2.1 z.2.2.2.2.1 z.2.2.2.2.2.1 z.2.2.2.2.2.2.1 aTp zln z.2.2.2.2.2.2.2.1 z.2.2.2.2.2.2.2.2.1 aSz zit zip zic zig z.2.2.2.2.2.2.2.2.2 ++ fr)) := by
  refine Ct.of (by decide +kernel) (Nat.le_of_ble_eq_true rfl) trivial ?_
  intro p e s m args below meth c Q A ls F hw hA hE hl
  have hx := F.x
  have hb := F.b
  unfold f_X1_readTo at h
  obtain ⟨H, hH⟩ : ∃ H, H = s.heap := ⟨_, rfl⟩
  obtain ⟨locs, hlo⟩ : ∃ locs : List Loc, locs = [] := ⟨_, rfl⟩
  rw [← hH, ← hlo] at hw ⊢
  have hl : lv_has ls 2 [(0, .ref (q 16)), (1, .ref (q (26 + r1)))] := hl
  refine lv_aload_n hx hb dX1_readTo_0 rfl (lv_at hl 0 rfl) ?_
  refine lv_iconst (v := 0) hx hb dX1_readTo_1 (by decide) ?_
  refine pf_1_42 F hw dX1_readTo_2 (fun H locs hw => ?_)
  refine lv_aload_n hx hb dX1_readTo_5 rfl (lv_at hl 0 rfl) ?_
  refine lv_iconst (v := -1) hx hb dX1_readTo_6 (by decide) ?_
  refine pf_1_45 F hw dX1_readTo_7 (fun H locs hw => ?_)
  refine lv_aload_n hx hb dX1_readTo_10 rfl (lv_at hl 0 rfl) ?_
  refine lv_iconst (v := 0) hx hb dX1_readTo_11 (by decide) ?_
  obtain ⟨z1, hz1, h⟩ := stB h
  refine ctV (av := [.int 0]) (st0 := ([] : List Value)) (st1 := ([.int z1.1] : List Value)) F hw hA (k_X1_readSum 7 _ _ _ _ _ _ _ _ _ _ _ _ _ _ _ _ _ _ _ _ _ _ _ _ _ _ _ _ _ _ _ _ _ hz1) kl_1_48 kd_X1_readSum rfl ⟨by decide, by decide⟩ 16 rfl rfl hl.1 rfl (Nat.le_of_ble_eq_true rfl) dX1_readTo_12 rfl (fun H locs hw => ?_)
  refine lv_if_eq (tgt := 49) hx hb dX1_readTo_15 (by decide) (fun c2 => ?_) (fun c2 => ?_)
  · replace h := stT c2 h
    refine lv_aload_n hx hb dX1_readTo_49 rfl (lv_at hl 0 rfl) ?_
    refine gf_1_45 F hw dX1_readTo_50 ?_
    refine lv_iconst (v := -1) hx hb dX1_readTo_53 (by decide) ?_
    refine lv_icmp_ne (tgt := 62) hx hb dX1_readTo_54 (by decide) (fun c3 => ?_) (fun c3 => ?_)
    · replace h := stF c3 h
      refine lv_bipush (v := -100) hx hb dX1_readTo_62 (by decide) ?_
      refine lv_aload_n hx hb dX1_readTo_64 rfl (lv_at hl 0 rfl) ?_
      refine gf_1_45 F hw dX1_readTo_65 ?_
      refine lv_isub hx hb dX1_readTo_68 ?_
      obtain rfl := Option.some.inj h
      exact hE H locs _ ls hw dX1_readTo_69
    · replace h := stT c3 h
      refine lv_bipush (v := -9) hx hb dX1_readTo_57 (by decide) ?_
      refine lv_goto (tgt := 69) hx hb dX1_readTo_59 (by decide) ?_
      obtain rfl := Option.some.inj h
      exact hE H locs _ ls hw dX1_readTo_69
  · replace h := stF c2 h
    refine lv_aload_n hx hb dX1_readTo_18 rfl (lv_at hl 0 rfl) ?_
    obtain ⟨z4, hz4, h⟩ := stB h
    refine ctV (av := []) (st0 := ([] : List Value)) (st1 := ([.int z4] : List Value)) F hw hA (k_X1_letter hz4) kl_1_52 kd_X1_letter rfl ⟨by decide, by decide⟩ 16 rfl rfl hl.1 rfl (Nat.le_of_ble_eq_true rfl) dX1_readTo_19 rfl (fun H locs hw => ?_)
    refine lv_iconst (v := -1) hx hb dX1_readTo_22 (by decide) ?_
    refine lv_icmp_eq (tgt := 37) hx hb dX1_readTo_23 (by decide) (fun c5 => ?_) (fun c5 => ?_)
    · replace h := stT c5 h
      refine lv_aload_n hx hb dX1_readTo_37 rfl (lv_at hl 0 rfl) ?_
      refine gf_1_17 F hw dX1_readTo_38 ?_
      refine lv_iconst (v := 0) hx hb dX1_readTo_41 (by decide) ?_
      obtain ⟨g6, h⟩ := stG h
      refine aq_c18 F hw g6 dX1_readTo_42 ?_
      refine lv_aload_n hx hb dX1_readTo_43 rfl (lv_at hl 1 rfl) ?_
      obtain ⟨z7, hz7, h⟩ := stB h
      refine ctSN (av := [.ref (q (26 + (11 + (0 : Int32).toNatClampNeg))), .ref (q (26 + r1))]) (st0 := ([] : List Value)) (st1 := ([] : List Value)) (host := RX4) F hw hA (k_X4_copyRow (Nat.lt_of_lt_of_le (Nat.add_lt_add_left (inb_lt g6) 11) (by decide)) hr1 hz7) (by decide +kernel) kn_X4_copyRow ki_4 ks_X4_copyRow kd_X4_copyRow rfl ⟨by decide, by decide⟩ hl.1 rfl (Nat.le_of_ble_eq_true rfl) dX1_readTo_44 rfl (fun H locs hw => ?_)
      refine lv_iconst (v := 1) hx hb dX1_readTo_47 (by decide) ?_
      obtain rfl := Option.some.inj h
      exact hE H locs _ ls hw dX1_readTo_48
    · replace h := stF c5 h
      refine lv_aload_n hx hb dX1_readTo_26 rfl (lv_at hl 0 rfl) ?_
      refine lv_aload_n hx hb dX1_readTo_27 rfl (lv_at hl 0 rfl) ?_
      refine gf_1_42 F hw dX1_readTo_28 ?_
      obtain ⟨z8, hz8, h⟩ := stB h
      refine ctV (av := [.int z1.2.2.2.2.2.2.2.1]) (st0 := ([] : List Value)) (st1 := ([.int z8.1] : List Value)) F hw hA (k_X1_faultAt hz8) kl_1_56 kd_X1_faultAt rfl ⟨by decide, by decide⟩ 16 rfl rfl hl.1 rfl (Nat.le_of_ble_eq_true rfl) dX1_readTo_31 rfl (fun H locs hw => ?_)
      refine lv_if_eq (tgt := 49) hx hb dX1_readTo_34 (by decide) (fun c9 => ?_) (fun c9 => ?_)
      · replace h := stT c9 h
        refine lv_aload_n hx hb dX1_readTo_49 rfl (lv_at hl 0 rfl) ?_
        refine gf_1_45 F hw dX1_readTo_50 ?_
        refine lv_iconst (v := -1) hx hb dX1_readTo_53 (by decide) ?_
        refine lv_icmp_ne (tgt := 62) hx hb dX1_readTo_54 (by decide) (fun c10 => ?_) (fun c10 => ?_)
        · replace h := stF c10 h
          refine lv_bipush (v := -100) hx hb dX1_readTo_62 (by decide) ?_
          refine lv_aload_n hx hb dX1_readTo_64 rfl (lv_at hl 0 rfl) ?_
          refine gf_1_45 F hw dX1_readTo_65 ?_
          refine lv_isub hx hb dX1_readTo_68 ?_
          obtain rfl := Option.some.inj h
          exact hE H locs _ ls hw dX1_readTo_69
        · replace h := stT c10 h
          refine lv_bipush (v := -9) hx hb dX1_readTo_57 (by decide) ?_
          refine lv_goto (tgt := 69) hx hb dX1_readTo_59 (by decide) ?_
          obtain rfl := Option.some.inj h
          exact hE H locs _ ls hw dX1_readTo_69
      · replace h := stF c9 h
        refine lv_aload_n hx hb dX1_readTo_37 rfl (lv_at hl 0 rfl) ?_
        refine gf_1_17 F hw dX1_readTo_38 ?_
        refine lv_iconst (v := 0) hx hb dX1_readTo_41 (by decide) ?_
        obtain ⟨g11, h⟩ := stG h
        refine aq_c18 F hw g11 dX1_readTo_42 ?_
        refine lv_aload_n hx hb dX1_readTo_43 rfl (lv_at hl 1 rfl) ?_
        obtain ⟨z12, hz12, h⟩ := stB h
        refine ctSN (av := [.ref (q (26 + (11 + (0 : Int32).toNatClampNeg))), .ref (q (26 + r1))]) (st0 := ([] : List Value)) (st1 := ([] : List Value)) (host := RX4) F hw hA (k_X4_copyRow (Nat.lt_of_lt_of_le (Nat.add_lt_add_left (inb_lt g11) 11) (by decide)) hr1 hz12) (by decide +kernel) kn_X4_copyRow ki_4 ks_X4_copyRow kd_X4_copyRow rfl ⟨by decide, by decide⟩ hl.1 rfl (Nat.le_of_ble_eq_true rfl) dX1_readTo_44 rfl (fun H locs hw => ?_)
        refine lv_iconst (v := 1) hx hb dX1_readTo_47 (by decide) ?_
        obtain rfl := Option.some.inj h
        exact hE H locs _ ls hw dX1_readTo_48
end
