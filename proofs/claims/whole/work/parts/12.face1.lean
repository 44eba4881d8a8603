/-! printed by wip/whole/mk.py: the functions that mirror the bytecode, and the contracts over them -/
theorem dX4_isShelf_0 : decode cX4_isShelf 0 = .ok (.iload_n 0, 1) := by decide +kernel
theorem dX4_isShelf_1 : decode cX4_isShelf 1 = .ok (.ifCond .lt 12, 3) := by decide +kernel
theorem dX4_isShelf_4 : decode cX4_isShelf 4 = .ok (.iload_n 0, 1) := by decide +kernel
theorem dX4_isShelf_5 : decode cX4_isShelf 5 = .ok (.iconst 4, 1) := by decide +kernel
theorem dX4_isShelf_6 : decode cX4_isShelf 6 = .ok (.if_icmp .ge 7, 3) := by decide +kernel
theorem dX4_isShelf_9 : decode cX4_isShelf 9 = .ok (.iconst 1, 1) := by decide +kernel
theorem dX4_isShelf_10 : decode cX4_isShelf 10 = .ok (.goto 4, 3) := by decide +kernel
theorem dX4_isShelf_13 : decode cX4_isShelf 13 = .ok (.iconst 0, 1) := by decide +kernel
theorem dX4_isShelf_14 : decode cX4_isShelf 14 = .ok (.ireturn, 1) := by decide +kernel
section
variable {p : Program} {l : Launch} {e : Env} {s : State} {m : MethodId} {args : Array Value} {below : List Frame} {meth : Method} {c : Code} {Q : State → Prop} {G : GG} {A : Nat → Prop} {q : Nat → Nat} {fr : va_W}
def f_X4_isShelf (v0 : Int32) : Option (Int32) :=
  if v0 < 0 then
  some 0
  else
  if 4 ≤ v0 then
  some 0
  else
  some 1
set_option maxHeartbeats 4000000 in
set_option maxRecDepth 100000 in
theorem k_X4_isShelf {l : Launch} {G : GG} {fr : va_W}   {v0 : Int32} {z : Int32}  (h : f_X4_isShelf v0 = some z) : Ct l G yX4_isShelf cX4_isShelf 1 (some .boolean) 0 0 [.int v0] fr (some (.int z)) fr := by
  refine Ct.of (by decide +kernel) (Nat.le_of_ble_eq_true rfl) trivial ?_
  intro p e s m args below meth c Q A ls F hw hA hE hl
  have hx := F.x
  have hb := F.b
  unfold f_X4_isShelf at h
  obtain ⟨H, hH⟩ : ∃ H, H = s.heap := ⟨_, rfl⟩
  obtain ⟨locs, hlo⟩ : ∃ locs : List Loc, locs = [] := ⟨_, rfl⟩
  rw [← hH, ← hlo] at hw ⊢
  have hl : lv_has ls 1 [(0, .int v0)] := hl
  refine lv_iload_n hx hb dX4_isShelf_0 rfl (lv_at hl 0 rfl) ?_
  refine lv_if_lt (tgt := 13) hx hb dX4_isShelf_1 (by decide) (fun c1 => ?_) (fun c1 => ?_)
  · replace h := stT c1 h
    refine lv_iconst (v := 0) hx hb dX4_isShelf_13 (by decide) ?_
    obtain rfl := Option.some.inj h
    exact hE H locs _ ls hw (Or.inl rfl) dX4_isShelf_14
  · replace h := stF c1 h
    refine lv_iload_n hx hb dX4_isShelf_4 rfl (lv_at hl 0 rfl) ?_
    refine lv_iconst (v := 4) hx hb dX4_isShelf_5 (by decide) ?_
    refine lv_icmp_ge (tgt := 13) hx hb dX4_isShelf_6 (by decide) (fun c2 => ?_) (fun c2 => ?_)
    · replace h := stT c2 h
      refine lv_iconst (v := 0) hx hb dX4_isShelf_13 (by decide) ?_
      obtain rfl := Option.some.inj h
      exact hE H locs _ ls hw (Or.inl rfl) dX4_isShelf_14
    · replace h := stF c2 h
      refine lv_iconst (v := 1) hx hb dX4_isShelf_9 (by decide) ?_
      refine lv_goto (tgt := 14) hx hb dX4_isShelf_10 (by decide) ?_
      obtain rfl := Option.some.inj h
      exact hE H locs _ ls hw (Or.inr rfl) dX4_isShelf_14
end
theorem dX4_isList_0 : decode cX4_isList 0 = .ok (.iload_n 0, 1) := by decide +kernel
theorem dX4_isList_1 : decode cX4_isList 1 = .ok (.ifCond .lt 12, 3) := by decide +kernel
theorem dX4_isList_4 : decode cX4_isList 4 = .ok (.iload_n 0, 1) := by decide +kernel
theorem dX4_isList_5 : decode cX4_isList 5 = .ok (.iconst 3, 1) := by decide +kernel
theorem dX4_isList_6 : decode cX4_isList 6 = .ok (.if_icmp .ge 7, 3) := by decide +kernel
theorem dX4_isList_9 : decode cX4_isList 9 = .ok (.iconst 1, 1) := by decide +kernel
theorem dX4_isList_10 : decode cX4_isList 10 = .ok (.goto 4, 3) := by decide +kernel
theorem dX4_isList_13 : decode cX4_isList 13 = .ok (.iconst 0, 1) := by decide +kernel
theorem dX4_isList_14 : decode cX4_isList 14 = .ok (.ireturn, 1) := by decide +kernel
section
variable {p : Program} {l : Launch} {e : Env} {s : State} {m : MethodId} {args : Array Value} {below : List Frame} {meth : Method} {c : Code} {Q : State → Prop} {G : GG} {A : Nat → Prop} {q : Nat → Nat} {fr : va_W}
def f_X4_isList (v0 : Int32) : Option (Int32) :=
  if v0 < 0 then
  some 0
  else
  if 3 ≤ v0 then
  some 0
  else
  some 1
set_option maxHeartbeats 4000000 in
set_option maxRecDepth 100000 in
theorem k_X4_isList {l : Launch} {G : GG} {fr : va_W}   {v0 : Int32} {z : Int32}  (h : f_X4_isList v0 = some z) : Ct l G yX4_isList cX4_isList 1 (some .boolean) 0 0 [.int v0] fr (some (.int z)) fr := by
  refine Ct.of (by decide +kernel) (Nat.le_of_ble_eq_true rfl) trivial ?_
  intro p e s m args below meth c Q A ls F hw hA hE hl
  have hx := F.x
  have hb := F.b
  unfold f_X4_isList at h
  obtain ⟨H, hH⟩ : ∃ H, H = s.heap := ⟨_, rfl⟩
  obtain ⟨locs, hlo⟩ : ∃ locs : List Loc, locs = [] := ⟨_, rfl⟩
  rw [← hH, ← hlo] at hw ⊢
  have hl : lv_has ls 1 [(0, .int v0)] := hl
  refine lv_iload_n hx hb dX4_isList_0 rfl (lv_at hl 0 rfl) ?_
  refine lv_if_lt (tgt := 13) hx hb dX4_isList_1 (by decide) (fun c1 => ?_) (fun c1 => ?_)
  · replace h := stT c1 h
    refine lv_iconst (v := 0) hx hb dX4_isList_13 (by decide) ?_
    obtain rfl := Option.some.inj h
    exact hE H locs _ ls hw (Or.inl rfl) dX4_isList_14
  · replace h := stF c1 h
    refine lv_iload_n hx hb dX4_isList_4 rfl (lv_at hl 0 rfl) ?_
    refine lv_iconst (v := 3) hx hb dX4_isList_5 (by decide) ?_
    refine lv_icmp_ge (tgt := 13) hx hb dX4_isList_6 (by decide) (fun c2 => ?_) (fun c2 => ?_)
    · replace h := stT c2 h
      refine lv_iconst (v := 0) hx hb dX4_isList_13 (by decide) ?_
      obtain rfl := Option.some.inj h
      exact hE H locs _ ls hw (Or.inl rfl) dX4_isList_14
    · replace h := stF c2 h
      refine lv_iconst (v := 1) hx hb dX4_isList_9 (by decide) ?_
      refine lv_goto (tgt := 14) hx hb dX4_isList_10 (by decide) ?_
      obtain rfl := Option.some.inj h
      exact hE H locs _ ls hw (Or.inr rfl) dX4_isList_14
end
theorem dX4_isClass_0 : decode cX4_isClass 0 = .ok (.iload_n 1, 1) := by decide +kernel
theorem dX4_isClass_1 : decode cX4_isClass 1 = .ok (.ifCond .lt 18, 3) := by decide +kernel
theorem dX4_isClass_4 : decode cX4_isClass 4 = .ok (.iload_n 1, 1) := by decide +kernel
theorem dX4_isClass_5 : decode cX4_isClass 5 = .ok (.aload_n 0, 1) := by decide +kernel
theorem dX4_isClass_6 : decode cX4_isClass 6 = .ok (.getfield 14, 3) := by decide +kernel
theorem dX4_isClass_9 : decode cX4_isClass 9 = .ok (.getfield 75, 3) := by decide +kernel
theorem dX4_isClass_12 : decode cX4_isClass 12 = .ok (.if_icmp .ge 7, 3) := by decide +kernel
theorem dX4_isClass_15 : decode cX4_isClass 15 = .ok (.iconst 1, 1) := by decide +kernel
theorem dX4_isClass_16 : decode cX4_isClass 16 = .ok (.goto 4, 3) := by decide +kernel
theorem dX4_isClass_19 : decode cX4_isClass 19 = .ok (.iconst 0, 1) := by decide +kernel
theorem dX4_isClass_20 : decode cX4_isClass 20 = .ok (.ireturn, 1) := by decide +kernel
section
variable {p : Program} {l : Launch} {e : Env} {s : State} {m : MethodId} {args : Array Value} {below : List Frame} {meth : Method} {c : Code} {Q : State → Prop} {G : GG} {A : Nat → Prop} {q : Nat → Nat} {fr : va_W}
def f_X4_isClass (ze : Int32) (v1 : Int32) : Option (Int32) :=
  if v1 < 0 then
  some 0
  else
  if ze ≤ v1 then
  some 0
  else
  some 1
set_option maxHeartbeats 4000000 in
set_option maxRecDepth 100000 in
theorem k_X4_isClass {l : Launch} {G : GG} {q : Nat → Nat} {fr : va_W}  {zp : Int32} {ze : Int32} {zf : Int32} {zg : Int32} {zn : Int32} {aG : Nat → Int32} {aW : Nat → Int32} {aR : Nat → Int32} {aN : Nat → Int32} {aF : Nat → Int32} {lC : Nat → Int64} {lS : Nat → Int64} {lP : Nat → Int64} {lX : Nat → Int64} {ztc : Int32} {aTs : Nat → Int32} {aTn : Nat → Int32} {zoc : Int32} {aOs : Nat → Int32} {aOn : Nat → Int32} {aTp : Nat → Int32} {zln : Int32} {zpl : Int32} {zfa : Int32} {aSz : Nat → Int32} {zit : Int32} {zip : Int32} {zic : Int32} {zig : Int32} {M : Nat → Nat → Int64} {v1 : Int32} {z : Int32}  (h : f_X4_isClass ze v1 = some z) : Ct l G yX4_isClass cX4_isClass 2 (some .boolean) 0 0 [.ref (q 21), .int v1] (kW G q zp ze zf zg zn aG aW aR aN aF lC lS lP lX ++ (oW G q ztc aTs aTn zoc aOs aOn aTp zln zpl zfa aSz zit zip zic zig M ++ fr)) (some (.int z)) (kW G q zp ze zf zg zn aG aW aR aN aF lC lS lP lX ++ (oW G q ztc aTs aTn zoc aOs aOn aTp zln zpl zfa aSz zit zip zic zig M ++ fr)) := by
  refine Ct.of (by decide +kernel) (Nat.le_of_ble_eq_true rfl) trivial ?_
  intro p e s m args below meth c Q A ls F hw hA hE hl
  have hx := F.x
  have hb := F.b
  unfold f_X4_isClass at h
  obtain ⟨H, hH⟩ : ∃ H, H = s.heap := ⟨_, rfl⟩
  obtain ⟨locs, hlo⟩ : ∃ locs : List Loc, locs = [] := ⟨_, rfl⟩
  rw [← hH, ← hlo] at hw ⊢
  have hl : lv_has ls 2 [(0, .ref (q 21)), (1, .int v1)] := hl
  refine lv_iload_n hx hb dX4_isClass_0 rfl (lv_at hl 1 rfl) ?_
  refine lv_if_lt (tgt := 19) hx hb dX4_isClass_1 (by decide) (fun c1 => ?_) (fun c1 => ?_)
  · replace h := stT c1 h
    refine lv_iconst (v := 0) hx hb dX4_isClass_19 (by decide) ?_
    obtain rfl := Option.some.inj h
    exact hE H locs _ ls hw (Or.inl rfl) dX4_isClass_20
  · replace h := stF c1 h
    refine lv_iload_n hx hb dX4_isClass_4 rfl (lv_at hl 1 rfl) ?_
    refine lv_aload_n hx hb dX4_isClass_5 rfl (lv_at hl 0 rfl) ?_
    refine gf_4_14 F hw dX4_isClass_6 ?_
    refine gf_4_75 F hw dX4_isClass_9 ?_
    refine lv_icmp_ge (tgt := 19) hx hb dX4_isClass_12 (by decide) (fun c2 => ?_) (fun c2 => ?_)
    · replace h := stT c2 h
      refine lv_iconst (v := 0) hx hb dX4_isClass_19 (by decide) ?_
      obtain rfl := Option.some.inj h
      exact hE H locs _ ls hw (Or.inl rfl) dX4_isClass_20
    · replace h := stF c2 h
      refine lv_iconst (v := 1) hx hb dX4_isClass_15 (by decide) ?_
      refine lv_goto (tgt := 20) hx hb dX4_isClass_16 (by decide) ?_
      obtain rfl := Option.some.inj h
      exact hE H locs _ ls hw (Or.inr rfl) dX4_isClass_20
end
theorem dX4_isRest_0 : decode cX4_isRest 0 = .ok (.iload_n 1, 1) := by decide +kernel
theorem dX4_isRest_1 : decode cX4_isRest 1 = .ok (.ifCond .lt 18, 3) := by decide +kernel
theorem dX4_isRest_4 : decode cX4_isRest 4 = .ok (.iload_n 1, 1) := by decide +kernel
theorem dX4_isRest_5 : decode cX4_isRest 5 = .ok (.aload_n 0, 1) := by decide +kernel
theorem dX4_isRest_6 : decode cX4_isRest 6 = .ok (.getfield 14, 3) := by decide +kernel
theorem dX4_isRest_9 : decode cX4_isRest 9 = .ok (.getfield 64, 3) := by decide +kernel
theorem dX4_isRest_12 : decode cX4_isRest 12 = .ok (.if_icmp .ge 7, 3) := by decide +kernel
theorem dX4_isRest_15 : decode cX4_isRest 15 = .ok (.iconst 1, 1) := by decide +kernel
theorem dX4_isRest_16 : decode cX4_isRest 16 = .ok (.goto 4, 3) := by decide +kernel
theorem dX4_isRest_19 : decode cX4_isRest 19 = .ok (.iconst 0, 1) := by decide +kernel
theorem dX4_isRest_20 : decode cX4_isRest 20 = .ok (.ireturn, 1) := by decide +kernel
section
variable {p : Program} {l : Launch} {e : Env} {s : State} {m : MethodId} {args : Array Value} {below : List Frame} {meth : Method} {c : Code} {Q : State → Prop} {G : GG} {A : Nat → Prop} {q : Nat → Nat} {fr : va_W}
def f_X4_isRest (zp : Int32) (v1 : Int32) : Option (Int32) :=
  if v1 < 0 then
  some 0
  else
  if zp ≤ v1 then
  some 0
  else
  some 1
set_option maxHeartbeats 4000000 in
set_option maxRecDepth 100000 in
theorem k_X4_isRest {l : Launch} {G : GG} {q : Nat → Nat} {fr : va_W}  {zp : Int32} {ze : Int32} {zf : Int32} {zg : Int32} {zn : Int32} {aG : Nat → Int32} {aW : Nat → Int32} {aR : Nat → Int32} {aN : Nat → Int32} {aF : Nat → Int32} {lC : Nat → Int64} {lS : Nat → Int64} {lP : Nat → Int64} {lX : Nat → Int64} {ztc : Int32} {aTs : Nat → Int32} {aTn : Nat → Int32} {zoc : Int32} {aOs : Nat → Int32} {aOn : Nat → Int32} {aTp : Nat → Int32} {zln : Int32} {zpl : Int32} {zfa : Int32} {aSz : Nat → Int32} {zit : Int32} {zip : Int32} {zic : Int32} {zig : Int32} {M : Nat → Nat → Int64} {v1 : Int32} {z : Int32}  (h : f_X4_isRest zp v1 = some z) : Ct l G yX4_isRest cX4_isRest 2 (some .boolean) 0 0 [.ref (q 21), .int v1] (kW G q zp ze zf zg zn aG aW aR aN aF lC lS lP lX ++ (oW G q ztc aTs aTn zoc aOs aOn aTp zln zpl zfa aSz zit zip zic zig M ++ fr)) (some (.int z)) (kW G q zp ze zf zg zn aG aW aR aN aF lC lS lP lX ++ (oW G q ztc aTs aTn zoc aOs aOn aTp zln zpl zfa aSz zit zip zic zig M ++ fr)) := by
  refine Ct.of (by decide +kernel) (Nat.le_of_ble_eq_true rfl) trivial ?_
  intro p e s m args below meth c Q A ls F hw hA hE hl
  have hx := F.x
  have hb := F.b
  unfold f_X4_isRest at h
  obtain ⟨H, hH⟩ : ∃ H, H = s.heap := ⟨_, rfl⟩
  obtain ⟨locs, hlo⟩ : ∃ locs : List Loc, locs = [] := ⟨_, rfl⟩
  rw [← hH, ← hlo] at hw ⊢
  have hl : lv_has ls 2 [(0, .ref (q 21)), (1, .int v1)] := hl
  refine lv_iload_n hx hb dX4_isRest_0 rfl (lv_at hl 1 rfl) ?_
  refine lv_if_lt (tgt := 19) hx hb dX4_isRest_1 (by decide) (fun c1 => ?_) (fun c1 => ?_)
  · replace h := stT c1 h
    refine lv_iconst (v := 0) hx hb dX4_isRest_19 (by decide) ?_
    obtain rfl := Option.some.inj h
    exact hE H locs _ ls hw (Or.inl rfl) dX4_isRest_20
  · replace h := stF c1 h
    refine lv_iload_n hx hb dX4_isRest_4 rfl (lv_at hl 1 rfl) ?_
    refine lv_aload_n hx hb dX4_isRest_5 rfl (lv_at hl 0 rfl) ?_
    refine gf_4_14 F hw dX4_isRest_6 ?_
    refine gf_4_64 F hw dX4_isRest_9 ?_
    refine lv_icmp_ge (tgt := 19) hx hb dX4_isRest_12 (by decide) (fun c2 => ?_) (fun c2 => ?_)
    · replace h := stT c2 h
      refine lv_iconst (v := 0) hx hb dX4_isRest_19 (by decide) ?_
      obtain rfl := Option.some.inj h
      exact hE H locs _ ls hw (Or.inl rfl) dX4_isRest_20
    · replace h := stF c2 h
      refine lv_iconst (v := 1) hx hb dX4_isRest_15 (by decide) ?_
      refine lv_goto (tgt := 20) hx hb dX4_isRest_16 (by decide) ?_
      obtain rfl := Option.some.inj h
      exact hE H locs _ ls hw (Or.inr rfl) dX4_isRest_20
end
theorem dX4_isNumberOfPrime_0 : decode cX4_isNumberOfPrime 0 = .ok (.iload_n 1, 1) := by decide +kernel
theorem dX4_isNumberOfPrime_1 : decode cX4_isNumberOfPrime 1 = .ok (.iconst 1, 1) := by decide +kernel
theorem dX4_isNumberOfPrime_2 : decode cX4_isNumberOfPrime 2 = .ok (.if_icmp .lt 18, 3) := by decide +kernel
theorem dX4_isNumberOfPrime_5 : decode cX4_isNumberOfPrime 5 = .ok (.iload_n 1, 1) := by decide +kernel
theorem dX4_isNumberOfPrime_6 : decode cX4_isNumberOfPrime 6 = .ok (.aload_n 0, 1) := by decide +kernel
theorem dX4_isNumberOfPrime_7 : decode cX4_isNumberOfPrime 7 = .ok (.getfield 14, 3) := by decide +kernel
theorem dX4_isNumberOfPrime_10 : decode cX4_isNumberOfPrime 10 = .ok (.getfield 64, 3) := by decide +kernel
theorem dX4_isNumberOfPrime_13 : decode cX4_isNumberOfPrime 13 = .ok (.if_icmp .ge 7, 3) := by decide +kernel
theorem dX4_isNumberOfPrime_16 : decode cX4_isNumberOfPrime 16 = .ok (.iconst 1, 1) := by decide +kernel
theorem dX4_isNumberOfPrime_17 : decode cX4_isNumberOfPrime 17 = .ok (.goto 4, 3) := by decide +kernel
theorem dX4_isNumberOfPrime_20 : decode cX4_isNumberOfPrime 20 = .ok (.iconst 0, 1) := by decide +kernel
theorem dX4_isNumberOfPrime_21 : decode cX4_isNumberOfPrime 21 = .ok (.ireturn, 1) := by decide +kernel
section
variable {p : Program} {l : Launch} {e : Env} {s : State} {m : MethodId} {args : Array Value} {below : List Frame} {meth : Method} {c : Code} {Q : State → Prop} {G : GG} {A : Nat → Prop} {q : Nat → Nat} {fr : va_W}
def f_X4_isNumberOfPrime (zp : Int32) (v1 : Int32) : Option (Int32) :=
  if v1 < 1 then
  some 0
  else
  if zp ≤ v1 then
  some 0
  else
  some 1
set_option maxHeartbeats 4000000 in
set_option maxRecDepth 100000 in
theorem k_X4_isNumberOfPrime {l : Launch} {G : GG} {q : Nat → Nat} {fr : va_W}  {zp : Int32} {ze : Int32} {zf : Int32} {zg : Int32} {zn : Int32} {aG : Nat → Int32} {aW : Nat → Int32} {aR : Nat → Int32} {aN : Nat → Int32} {aF : Nat → Int32} {lC : Nat → Int64} {lS : Nat → Int64} {lP : Nat → Int64} {lX : Nat → Int64} {ztc : Int32} {aTs : Nat → Int32} {aTn : Nat → Int32} {zoc : Int32} {aOs : Nat → Int32} {aOn : Nat → Int32} {aTp : Nat → Int32} {zln : Int32} {zpl : Int32} {zfa : Int32} {aSz : Nat → Int32} {zit : Int32} {zip : Int32} {zic : Int32} {zig : Int32} {M : Nat → Nat → Int64} {v1 : Int32} {z : Int32}  (h : f_X4_isNumberOfPrime zp v1 = some z) : Ct l G yX4_isNumberOfPrime cX4_isNumberOfPrime 2 (some .boolean) 0 0 [.ref (q 21), .int v1] (kW G q zp ze zf zg zn aG aW aR aN aF lC lS lP lX ++ (oW G q ztc aTs aTn zoc aOs aOn aTp zln zpl zfa aSz zit zip zic zig M ++ fr)) (some (.int z)) (kW G q zp ze zf zg zn aG aW aR aN aF lC lS lP lX ++ (oW G q ztc aTs aTn zoc aOs aOn aTp zln zpl zfa aSz zit zip zic zig M ++ fr)) := by
  refine Ct.of (by decide +kernel) (Nat.le_of_ble_eq_true rfl) trivial ?_
  intro p e s m args below meth c Q A ls F hw hA hE hl
  have hx := F.x
  have hb := F.b
  unfold f_X4_isNumberOfPrime at h
  obtain ⟨H, hH⟩ : ∃ H, H = s.heap := ⟨_, rfl⟩
  obtain ⟨locs, hlo⟩ : ∃ locs : List Loc, locs = [] := ⟨_, rfl⟩
  rw [← hH, ← hlo] at hw ⊢
  have hl : lv_has ls 2 [(0, .ref (q 21)), (1, .int v1)] := hl
  refine lv_iload_n hx hb dX4_isNumberOfPrime_0 rfl (lv_at hl 1 rfl) ?_
  refine lv_iconst (v := 1) hx hb dX4_isNumberOfPrime_1 (by decide) ?_
  refine lv_icmp_lt (tgt := 20) hx hb dX4_isNumberOfPrime_2 (by decide) (fun c1 => ?_) (fun c1 => ?_)
  · replace h := stT c1 h
    refine lv_iconst (v := 0) hx hb dX4_isNumberOfPrime_20 (by decide) ?_
    obtain rfl := Option.some.inj h
    exact hE H locs _ ls hw (Or.inl rfl) dX4_isNumberOfPrime_21
  · replace h := stF c1 h
    refine lv_iload_n hx hb dX4_isNumberOfPrime_5 rfl (lv_at hl 1 rfl) ?_
    refine lv_aload_n hx hb dX4_isNumberOfPrime_6 rfl (lv_at hl 0 rfl) ?_
    refine gf_4_14 F hw dX4_isNumberOfPrime_7 ?_
    refine gf_4_64 F hw dX4_isNumberOfPrime_10 ?_
    refine lv_icmp_ge (tgt := 20) hx hb dX4_isNumberOfPrime_13 (by decide) (fun c2 => ?_) (fun c2 => ?_)
    · replace h := stT c2 h
      refine lv_iconst (v := 0) hx hb dX4_isNumberOfPrime_20 (by decide) ?_
      obtain rfl := Option.some.inj h
      exact hE H locs _ ls hw (Or.inl rfl) dX4_isNumberOfPrime_21
    · replace h := stF c2 h
      refine lv_iconst (v := 1) hx hb dX4_isNumberOfPrime_16 (by decide) ?_
      refine lv_goto (tgt := 21) hx hb dX4_isNumberOfPrime_17 (by decide) ?_
      obtain rfl := Option.some.inj h
      exact hE H locs _ ls hw (Or.inr rfl) dX4_isNumberOfPrime_21
end
theorem dX4_isOddPrime_0 : decode cX4_isOddPrime 0 = .ok (.iload_n 0, 1) := by decide +kernel
theorem dX4_isOddPrime_1 : decode cX4_isOddPrime 1 = .ok (.iconst 3, 1) := by decide +kernel
theorem dX4_isOddPrime_2 : decode cX4_isOddPrime 2 = .ok (.if_icmp .lt 15, 3) := by decide +kernel
theorem dX4_isOddPrime_5 : decode cX4_isOddPrime 5 = .ok (.iload_n 0, 1) := by decide +kernel
theorem dX4_isOddPrime_6 : decode cX4_isOddPrime 6 = .ok (.bipush 61, 2) := by decide +kernel
theorem dX4_isOddPrime_8 : decode cX4_isOddPrime 8 = .ok (.if_icmp .gt 9, 3) := by decide +kernel
theorem dX4_isOddPrime_11 : decode cX4_isOddPrime 11 = .ok (.iload_n 0, 1) := by decide +kernel
theorem dX4_isOddPrime_12 : decode cX4_isOddPrime 12 = .ok (.iconst 2, 1) := by decide +kernel
theorem dX4_isOddPrime_13 : decode cX4_isOddPrime 13 = .ok (.irem, 1) := by decide +kernel
theorem dX4_isOddPrime_14 : decode cX4_isOddPrime 14 = .ok (.ifCond .ne 5, 3) := by decide +kernel
theorem dX4_isOddPrime_17 : decode cX4_isOddPrime 17 = .ok (.iconst 0, 1) := by decide +kernel
theorem dX4_isOddPrime_18 : decode cX4_isOddPrime 18 = .ok (.ireturn, 1) := by decide +kernel
theorem dX4_isOddPrime_19 : decode cX4_isOddPrime 19 = .ok (.iconst 3, 1) := by decide +kernel
theorem dX4_isOddPrime_20 : decode cX4_isOddPrime 20 = .ok (.istore_n 1, 1) := by decide +kernel
theorem dX4_isOddPrime_21 : decode cX4_isOddPrime 21 = .ok (.iload_n 1, 1) := by decide +kernel
theorem dX4_isOddPrime_22 : decode cX4_isOddPrime 22 = .ok (.iload_n 0, 1) := by decide +kernel
theorem dX4_isOddPrime_23 : decode cX4_isOddPrime 23 = .ok (.if_icmp .ge 17, 3) := by decide +kernel
theorem dX4_isOddPrime_26 : decode cX4_isOddPrime 26 = .ok (.iload_n 0, 1) := by decide +kernel
theorem dX4_isOddPrime_27 : decode cX4_isOddPrime 27 = .ok (.iload_n 1, 1) := by decide +kernel
theorem dX4_isOddPrime_28 : decode cX4_isOddPrime 28 = .ok (.irem, 1) := by decide +kernel
theorem dX4_isOddPrime_29 : decode cX4_isOddPrime 29 = .ok (.ifCond .ne 5, 3) := by decide +kernel
theorem dX4_isOddPrime_32 : decode cX4_isOddPrime 32 = .ok (.iconst 0, 1) := by decide +kernel
theorem dX4_isOddPrime_33 : decode cX4_isOddPrime 33 = .ok (.ireturn, 1) := by decide +kernel
theorem dX4_isOddPrime_34 : decode cX4_isOddPrime 34 = .ok (.iinc 1 2, 3) := by decide +kernel
theorem dX4_isOddPrime_37 : decode cX4_isOddPrime 37 = .ok (.goto (-16), 3) := by decide +kernel
theorem dX4_isOddPrime_40 : decode cX4_isOddPrime 40 = .ok (.iconst 1, 1) := by decide +kernel
theorem dX4_isOddPrime_41 : decode cX4_isOddPrime 41 = .ok (.ireturn, 1) := by decide +kernel
section
variable {p : Program} {l : Launch} {e : Env} {s : State} {m : MethodId} {args : Array Value} {below : List Frame} {meth : Method} {c : Code} {Q : State → Prop} {G : GG} {A : Nat → Prop} {q : Nat → Nat} {fr : va_W}
def f_X4_isOddPrime_L21 (v0 : Int32) : Nat → Int32 → Option (Int32)
  | 0, _ => none
  | fu + 1, v1 =>
    if v0 ≤ v1 then
    some 1
    else
    if v1 = 0 then none else
    if (v0 - v0 / v1 * v1) = 0 then
    some 0
    else
    f_X4_isOddPrime_L21 v0 fu (v1 + 2)
set_option maxHeartbeats 4000000 in
set_option maxRecDepth 100000 in
theorem w_X4_isOddPrime_L21   {v0 : Int32}  (F : Fx p s m args meth c cX4_isOddPrime 2 RX4 (some .boolean)) (hA : ∀ q, s.heap.size ≤ q → A q)   : ∀ (fu : Nat) (v1 : Int32) (z : Int32), f_X4_isOddPrime_L21 v0 fu v1 = some z → Ends p l e (rmOf 0 0) s m args below meth c Q cX4_isOddPrime G A (some .boolean) (some (.int z)) fr → ∀ (H : Heap) (locs : List Loc) (ls : Array Slot), Wd G s A fr H locs → lv_has ls 2 [(0, .int v0), (1, .int v1)] → W p l e (rmOf 0 0) s m args below meth c H locs 0 0 Q (F0 m 21 ls []) := by
  have hx := F.x
  have hb := F.b
  intro fu
  induction fu with
  | zero =>
    intro v1 z h
    cases (h : none = some z)
  | succ fu ih =>
    intro v1 z h hE H locs ls hw hl
    rw [f_X4_isOddPrime_L21] at h
    refine lv_iload_n hx hb dX4_isOddPrime_21 rfl (lv_at hl 1 rfl) ?_
    refine lv_iload_n hx hb dX4_isOddPrime_22 rfl (lv_at hl 0 rfl) ?_
    refine lv_icmp_ge (tgt := 40) hx hb dX4_isOddPrime_23 (by decide) (fun c1 => ?_) (fun c1 => ?_)
    · replace h := stT c1 h
      refine lv_iconst (v := 1) hx hb dX4_isOddPrime_40 (by decide) ?_
      obtain rfl := Option.some.inj h
      exact hE H locs _ ls hw (Or.inr rfl) dX4_isOddPrime_41
    · replace h := stF c1 h
      refine lv_iload_n hx hb dX4_isOddPrime_26 rfl (lv_at hl 0 rfl) ?_
      refine lv_iload_n hx hb dX4_isOddPrime_27 rfl (lv_at hl 1 rfl) ?_
      obtain ⟨g2, h⟩ := stD h
      refine lv_irem hx hb dX4_isOddPrime_28 g2 ?_
      refine lv_if_ne (tgt := 34) hx hb dX4_isOddPrime_29 (by decide) (fun c3 => ?_) (fun c3 => ?_)
      · replace h := stF c3 h
        refine lv_iinc (v := (v1 + 2)) (lv' := [(1, .int (v1 + 2)), (0, .int v0)]) hx hb dX4_isOddPrime_34 hl (k := 1) rfl rfl (by decide) rfl (fun ls hl => ?_)
        refine lv_goto (tgt := 21) hx hb dX4_isOddPrime_37 (by decide) ?_
        exact ih _ z h hE H locs ls hw (lv_sub hl [1, 0] rfl)
      · replace h := stT c3 h
        refine lv_iconst (v := 0) hx hb dX4_isOddPrime_32 (by decide) ?_
        obtain rfl := Option.some.inj h
        exact hE H locs _ ls hw (Or.inl rfl) dX4_isOddPrime_33
def f_X4_isOddPrime (v0 : Int32) : Option (Int32) :=
  if v0 < 3 then
  some 0
  else
  if 61 < v0 then
  some 0
  else
  if (v0 - v0 / 2 * 2) = 0 then
  some 0
  else
  f_X4_isOddPrime_L21 v0 FU 3
set_option maxHeartbeats 4000000 in
set_option maxRecDepth 100000 in
theorem k_X4_isOddPrime {l : Launch} {G : GG} {fr : va_W}   {v0 : Int32} {z : Int32}  (h : f_X4_isOddPrime v0 = some z) : Ct l G yX4_isOddPrime cX4_isOddPrime 2 (some .boolean) 0 0 [.int v0] fr (some (.int z)) fr := by
  refine Ct.of (by decide +kernel) (Nat.le_of_ble_eq_true rfl) trivial ?_
  intro p e s m args below meth c Q A ls F hw hA hE hl
  have hx := F.x
  have hb := F.b
  unfold f_X4_isOddPrime at h
  obtain ⟨H, hH⟩ : ∃ H, H = s.heap := ⟨_, rfl⟩
  obtain ⟨locs, hlo⟩ : ∃ locs : List Loc, locs = [] := ⟨_, rfl⟩
  rw [← hH, ← hlo] at hw ⊢
  have hl : lv_has ls 2 [(0, .int v0)] := hl
  refine lv_iload_n hx hb dX4_isOddPrime_0 rfl (lv_at hl 0 rfl) ?_
  refine lv_iconst (v := 3) hx hb dX4_isOddPrime_1 (by decide) ?_
  refine lv_icmp_lt (tgt := 17) hx hb dX4_isOddPrime_2 (by decide) (fun c1 => ?_) (fun c1 => ?_)
  · replace h := stT c1 h
    refine lv_iconst (v := 0) hx hb dX4_isOddPrime_17 (by decide) ?_
    obtain rfl := Option.some.inj h
    exact hE H locs _ ls hw (Or.inl rfl) dX4_isOddPrime_18
  · replace h := stF c1 h
    refine lv_iload_n hx hb dX4_isOddPrime_5 rfl (lv_at hl 0 rfl) ?_
    refine lv_bipush (v := 61) hx hb dX4_isOddPrime_6 (by decide) ?_
    refine lv_icmp_gt (tgt := 17) hx hb dX4_isOddPrime_8 (by decide) (fun c2 => ?_) (fun c2 => ?_)
    · replace h := stT c2 h
      refine lv_iconst (v := 0) hx hb dX4_isOddPrime_17 (by decide) ?_
      obtain rfl := Option.some.inj h
      exact hE H locs _ ls hw (Or.inl rfl) dX4_isOddPrime_18
    · replace h := stF c2 h
      refine lv_iload_n hx hb dX4_isOddPrime_11 rfl (lv_at hl 0 rfl) ?_
      refine lv_iconst (v := 2) hx hb dX4_isOddPrime_12 (by decide) ?_
      refine lv_irem hx hb dX4_isOddPrime_13 (by decide) ?_
      refine lv_if_ne (tgt := 19) hx hb dX4_isOddPrime_14 (by decide) (fun c3 => ?_) (fun c3 => ?_)
      · replace h := stF c3 h
        refine lv_iconst (v := 3) hx hb dX4_isOddPrime_19 (by decide) ?_
        refine lv_istore_n (lv' := [(1, .int 3), (0, .int v0)]) hx hb dX4_isOddPrime_20 rfl hl (by decide) rfl (fun ls hl => ?_)
        exact w_X4_isOddPrime_L21 F hA  FU _ z h hE H locs ls hw (lv_sub hl [1, 0] rfl)
      · replace h := stT c3 h
        refine lv_iconst (v := 0) hx hb dX4_isOddPrime_17 (by decide) ?_
        obtain rfl := Option.some.inj h
        exact hE H locs _ ls hw (Or.inl rfl) dX4_isOddPrime_18
end
theorem dX4_field_0 : decode cX4_field 0 = .ok (.iload_n 1, 1) := by decide +kernel
theorem dX4_field_1 : decode cX4_field 1 = .ok (.invokestatic 60, 3) := by decide +kernel
theorem dX4_field_4 : decode cX4_field 4 = .ok (.ifCond .ne 6, 3) := by decide +kernel
theorem dX4_field_7 : decode cX4_field 7 = .ok (.bipush (-2), 2) := by decide +kernel
theorem dX4_field_9 : decode cX4_field 9 = .ok (.ireturn, 1) := by decide +kernel
theorem dX4_field_10 : decode cX4_field 10 = .ok (.iload_n 2, 1) := by decide +kernel
theorem dX4_field_11 : decode cX4_field 11 = .ok (.iconst 1, 1) := by decide +kernel
theorem dX4_field_12 : decode cX4_field 12 = .ok (.if_icmp .lt 17, 3) := by decide +kernel
theorem dX4_field_15 : decode cX4_field 15 = .ok (.iload_n 2, 1) := by decide +kernel
theorem dX4_field_16 : decode cX4_field 16 = .ok (.bipush 12, 2) := by decide +kernel
theorem dX4_field_18 : decode cX4_field 18 = .ok (.if_icmp .gt 11, 3) := by decide +kernel
theorem dX4_field_21 : decode cX4_field 21 = .ok (.iload_n 1, 1) := by decide +kernel
theorem dX4_field_22 : decode cX4_field 22 = .ok (.iconst 1, 1) := by decide +kernel
theorem dX4_field_23 : decode cX4_field 23 = .ok (.isub, 1) := by decide +kernel
theorem dX4_field_24 : decode cX4_field 24 = .ok (.iload_n 2, 1) := by decide +kernel
theorem dX4_field_25 : decode cX4_field 25 = .ok (.irem, 1) := by decide +kernel
theorem dX4_field_26 : decode cX4_field 26 = .ok (.ifCond .eq 6, 3) := by decide +kernel
theorem dX4_field_29 : decode cX4_field 29 = .ok (.bipush (-3), 2) := by decide +kernel
theorem dX4_field_31 : decode cX4_field 31 = .ok (.ireturn, 1) := by decide +kernel
theorem dX4_field_32 : decode cX4_field 32 = .ok (.aload_n 0, 1) := by decide +kernel
theorem dX4_field_33 : decode cX4_field 33 = .ok (.getfield 14, 3) := by decide +kernel
theorem dX4_field_36 : decode cX4_field 36 = .ok (.getfield 64, 3) := by decide +kernel
theorem dX4_field_39 : decode cX4_field 39 = .ok (.istore_n 3, 1) := by decide +kernel
theorem dX4_field_40 : decode cX4_field 40 = .ok (.aload_n 0, 1) := by decide +kernel
theorem dX4_field_41 : decode cX4_field 41 = .ok (.getfield 14, 3) := by decide +kernel
theorem dX4_field_44 : decode cX4_field 44 = .ok (.iload_n 1, 1) := by decide +kernel
theorem dX4_field_45 : decode cX4_field 45 = .ok (.iload_n 2, 1) := by decide +kernel
theorem dX4_field_46 : decode cX4_field 46 = .ok (.invokevirtual 68, 3) := by decide +kernel
theorem dX4_field_49 : decode cX4_field 49 = .ok (.iconst 0, 1) := by decide +kernel
theorem dX4_field_50 : decode cX4_field 50 = .ok (.istore 4, 2) := by decide +kernel
theorem dX4_field_52 : decode cX4_field 52 = .ok (.iload 4, 2) := by decide +kernel
theorem dX4_field_54 : decode cX4_field 54 = .ok (.iconst 4, 1) := by decide +kernel
theorem dX4_field_55 : decode cX4_field 55 = .ok (.if_icmp .ge 20, 3) := by decide +kernel
theorem dX4_field_58 : decode cX4_field 58 = .ok (.aload_n 0, 1) := by decide +kernel
theorem dX4_field_59 : decode cX4_field 59 = .ok (.getfield 47, 3) := by decide +kernel
theorem dX4_field_62 : decode cX4_field 62 = .ok (.iload 4, 2) := by decide +kernel
theorem dX4_field_64 : decode cX4_field 64 = .ok (.aaload, 1) := by decide +kernel
theorem dX4_field_65 : decode cX4_field 65 = .ok (.iconst 0, 1) := by decide +kernel
theorem dX4_field_66 : decode cX4_field 66 = .ok (.invokestatic 71, 3) := by decide +kernel
theorem dX4_field_69 : decode cX4_field 69 = .ok (.iinc 4 1, 3) := by decide +kernel
theorem dX4_field_72 : decode cX4_field 72 = .ok (.goto (-20), 3) := by decide +kernel
theorem dX4_field_75 : decode cX4_field 75 = .ok (.iload_n 3, 1) := by decide +kernel
theorem dX4_field_76 : decode cX4_field 76 = .ok (.ireturn, 1) := by decide +kernel
section
variable {p : Program} {l : Launch} {e : Env} {s : State} {m : MethodId} {args : Array Value} {below : List Frame} {meth : Method} {c : Code} {Q : State → Prop} {G : GG} {A : Nat → Prop} {q : Nat → Nat} {fr : va_W}
def f_X4_field_L52 (v1 : Int32) (v2 : Int32) : Nat → Int32 → Int32 → Int32 → Int32 → Int32 → (Nat → Int32) → (Nat → Int32) → (Nat → Int32) → (Nat → Int32) → (Nat → Int32) → (Nat → Int64) → (Nat → Int64) → (Nat → Int64) → (Nat → Int64) → (Nat → Nat → Int64) → Int32 → Int32 → Option (Int32 × Int32 × Int32 × Int32 × Int32 × Int32 × (Nat → Int32) × (Nat → Int32) × (Nat → Int32) × (Nat → Int32) × (Nat → Int32) × (Nat → Int64) × (Nat → Int64) × (Nat → Int64) × (Nat → Int64) × (Nat → Nat → Int64))
  | 0, _, _, _, _, _, _, _, _, _, _, _, _, _, _, _, _, _ => none
  | fu + 1, zp, ze, zf, zg, zn, aG, aW, aR, aN, aF, lC, lS, lP, lX, M, v3, v4 =>
    if 4 ≤ v4 then
    some (v3, zp, ze, zf, zg, zn, aG, aW, aR, aN, aF, lC, lS, lP, lX, M)
    else
    if inb v4 4 then
    (f_X4_setWhole M (0 + v4.toNatClampNeg) 0).bind fun z3 =>
    f_X4_field_L52 v1 v2 fu zp ze zf zg zn aG aW aR aN aF lC lS lP lX z3 v3 (v4 + 1)
    else none
set_option maxHeartbeats 4000000 in
set_option maxRecDepth 100000 in
theorem w_X4_field_L52  {ztc : Int32} {aTs : Nat → Int32} {aTn : Nat → Int32} {zoc : Int32} {aOs : Nat → Int32} {aOn : Nat → Int32} {aTp : Nat → Int32} {zln : Int32} {zpl : Int32} {zfa : Int32} {aSz : Nat → Int32} {zit : Int32} {zip : Int32} {zic : Int32} {zig : Int32} {v1 : Int32} {v2 : Int32}  (F : Fx p s m args meth c cX4_field 5 RX4 (some .int)) (hA : ∀ q, s.heap.size ≤ q → A q)   : ∀ (fu : Nat) (zp : Int32) (ze : Int32) (zf : Int32) (zg : Int32) (zn : Int32) (aG : Nat → Int32) (aW : Nat → Int32) (aR : Nat → Int32) (aN : Nat → Int32) (aF : Nat → Int32) (lC : Nat → Int64) (lS : Nat → Int64) (lP : Nat → Int64) (lX : Nat → Int64) (M : Nat → Nat → Int64) (v3 : Int32) (v4 : Int32) (z : Int32 × Int32 × Int32 × Int32 × Int32 × Int32 × (Nat → Int32) × (Nat → Int32) × (Nat → Int32) × (Nat → Int32) × (Nat → Int32) × (Nat → Int64) × (Nat → Int64) × (Nat → Int64) × (Nat → Int64) × (Nat → Nat → Int64)), f_X4_field_L52 v1 v2 fu zp ze zf zg zn aG aW aR aN aF lC lS lP lX M v3 v4 = some z → Ends p l e (rmOf 5 116) s m args below meth c Q cX4_field G A (some .int) (some (.int z.1)) (kW G q z.2.1 z.2.2.1 z.2.2.2.1 z.2.2.2.2.1 z.2.2.2.2.2.1 z.2.2.2.2.2.2.1 z.2.2.2.2.2.2.2.1 z.2.2.2.2.2.2.2.2.1 z.2.2.2.2.2.2.2.2.2.1 z.2.2.2.2.2.2.2.2.2.2.1 z.2.2.2.2.2.2.2.2.2.2.2.1 z.2.2.2.2.2.2.2.2.2.2.2.2.1 z.2.2.2.2.2.2.2.2.2.2.2.2.2.1 z.2.2.2.2.2.2.2.2.2.2.2.2.2.2.1 ++ (oW G q ztc aTs aTn zoc aOs aOn aTp zln zpl zfa aSz zit zip zic zig z.2.2.2.2.2.2.2.2.2.2.2.2.2.2.2 ++ fr)) → ∀ (H : Heap) (locs : List Loc) (ls : Array Slot), Wd G s A (kW G q zp ze zf zg zn aG aW aR aN aF lC lS lP lX ++ (oW G q ztc aTs aTn zoc aOs aOn aTp zln zpl zfa aSz zit zip zic zig M ++ fr)) H locs → lv_has ls 5 [(0, .ref (q 21)), (3, .int v3), (4, .int v4)] → W p l e (rmOf 5 116) s m args below meth c H locs 0 0 Q (F0 m 52 ls []) := by
  have hx := F.x
  have hb := F.b
  intro fu
  induction fu with
  | zero =>
    intro zp ze zf zg zn aG aW aR aN aF lC lS lP lX M v3 v4 z h
    cases (h : none = some z)
  | succ fu ih =>
    intro zp ze zf zg zn aG aW aR aN aF lC lS lP lX M v3 v4 z h hE H locs ls hw hl
    rw [f_X4_field_L52] at h
    refine lv_iload hx hb dX4_field_52 (lv_at hl 2 rfl) ?_
    refine lv_iconst (v := 4) hx hb dX4_field_54 (by decide) ?_
    refine lv_icmp_ge (tgt := 75) hx hb dX4_field_55 (by decide) (fun c1 => ?_) (fun c1 => ?_)
    · replace h := stT c1 h
      refine lv_iload_n hx hb dX4_field_75 rfl (lv_at hl 1 rfl) ?_
      obtain rfl := Option.some.inj h
      exact hE H locs _ ls hw dX4_field_76
    · replace h := stF c1 h
      refine lv_aload_n hx hb dX4_field_58 rfl (lv_at hl 0 rfl) ?_
      refine gf_4_47 F hw dX4_field_59 ?_
      refine lv_iload hx hb dX4_field_62 (lv_at hl 2 rfl) ?_
      obtain ⟨g2, h⟩ := stG h
      refine aq_c22 F hw g2 dX4_field_64 ?_
      refine lv_iconst (v := 0) hx hb dX4_field_65 (by decide) ?_
      obtain ⟨z3, hz3, h⟩ := stB h
      refine ctS (av := [.ref (q (26 + (0 + v4.toNatClampNeg))), .int 0]) (st0 := ([] : List Value)) (st1 := ([] : List Value)) F hw hA (k_X4_setWhole (Nat.lt_of_lt_of_le (Nat.add_lt_add_left (inb_lt g2) 0) (by decide)) hz3) kl_4_71 kd_X4_setWhole rfl ⟨by decide, by decide⟩ hl.1 rfl (Nat.le_of_ble_eq_true rfl) dX4_field_66 rfl (fun H locs hw => ?_)
      refine lv_iinc (v := (v4 + 1)) (lv' := [(4, .int (v4 + 1)), (0, .ref (q 21)), (3, .int v3)]) hx hb dX4_field_69 hl (k := 2) rfl rfl (by decide) rfl (fun ls hl => ?_)
      refine lv_goto (tgt := 52) hx hb dX4_field_72 (by decide) ?_
      exact ih _ _ _ _ _ _ _ _ _ _ _ _ _ _ _ _ _ z h hE H locs ls hw (lv_sub hl [1, 2, 0] rfl)
def f_X4_field (zp : Int32) (ze : Int32) (zf : Int32) (zg : Int32) (zn : Int32) (aG : Nat → Int32) (aW : Nat → Int32) (aR : Nat → Int32) (aN : Nat → Int32) (aF : Nat → Int32) (lC : Nat → Int64) (lS : Nat → Int64) (lP : Nat → Int64) (lX : Nat → Int64) (M : Nat → Nat → Int64) (v1 : Int32) (v2 : Int32) : Option (Int32 × Int32 × Int32 × Int32 × Int32 × Int32 × (Nat → Int32) × (Nat → Int32) × (Nat → Int32) × (Nat → Int32) × (Nat → Int32) × (Nat → Int64) × (Nat → Int64) × (Nat → Int64) × (Nat → Int64) × (Nat → Nat → Int64)) :=
  (f_X4_isOddPrime v1).bind fun z1 =>
  if z1 = 0 then
  some ((-2), zp, ze, zf, zg, zn, aG, aW, aR, aN, aF, lC, lS, lP, lX, M)
  else
  if v2 < 1 then
  some ((-3), zp, ze, zf, zg, zn, aG, aW, aR, aN, aF, lC, lS, lP, lX, M)
  else
  if 12 < v2 then
  some ((-3), zp, ze, zf, zg, zn, aG, aW, aR, aN, aF, lC, lS, lP, lX, M)
  else
  if v2 = 0 then none else
  if ((v1 - 1) - (v1 - 1) / v2 * v2) = 0 then
  (f_X0_settle zp ze zf zg zn aG aW aR aN aF lC lS lP lX v1 v2).bind fun z7 =>
  f_X4_field_L52 v1 v2 FU z7.1 z7.2.1 z7.2.2.1 z7.2.2.2.1 z7.2.2.2.2.1 z7.2.2.2.2.2.1 z7.2.2.2.2.2.2.1 z7.2.2.2.2.2.2.2.1 z7.2.2.2.2.2.2.2.2.1 z7.2.2.2.2.2.2.2.2.2.1 z7.2.2.2.2.2.2.2.2.2.2.1 z7.2.2.2.2.2.2.2.2.2.2.2.1 z7.2.2.2.2.2.2.2.2.2.2.2.2.1 z7.2.2.2.2.2.2.2.2.2.2.2.2.2 M zp 0
  else
  some ((-3), zp, ze, zf, zg, zn, aG, aW, aR, aN, aF, lC, lS, lP, lX, M)
set_option maxHeartbeats 4000000 in
set_option maxRecDepth 100000 in
theorem k_X4_field {l : Launch} {G : GG} {q : Nat → Nat} {fr : va_W}  {zp : Int32} {ze : Int32} {zf : Int32} {zg : Int32} {zn : Int32} {aG : Nat → Int32} {aW : Nat → Int32} {aR : Nat → Int32} {aN : Nat → Int32} {aF : Nat → Int32} {lC : Nat → Int64} {lS : Nat → Int64} {lP : Nat → Int64} {lX : Nat → Int64} {ztc : Int32} {aTs : Nat → Int32} {aTn : Nat → Int32} {zoc : Int32} {aOs : Nat → Int32} {aOn : Nat → Int32} {aTp : Nat → Int32} {zln : Int32} {zpl : Int32} {zfa : Int32} {aSz : Nat → Int32} {zit : Int32} {zip : Int32} {zic : Int32} {zig : Int32} {M : Nat → Nat → Int64} {v1 : Int32} {v2 : Int32} {z : Int32 × Int32 × Int32 × Int32 × Int32 × Int32 × (Nat → Int32) × (Nat → Int32) × (Nat → Int32) × (Nat → Int32) × (Nat → Int32) × (Nat → Int64) × (Nat → Int64) × (Nat → Int64) × (Nat → Int64) × (Nat → Nat → Int64)}  (h : f_X4_field zp ze zf zg zn aG aW aR aN aF lC lS lP lX M v1 v2 = some z) : Ct l G yX4_field cX4_field 5 (some .int) 5 116 [.ref (q 21), .int v1, .int v2] (kW G q zp ze zf zg zn aG aW aR aN aF lC lS lP lX ++ (oW G q ztc aTs aTn zoc aOs aOn aTp zln zpl zfa aSz zit zip zic zig M ++ fr)) (some (.int z.1)) (kW G q z.2.1 z.2.2.1 z.2.2.2.1 z.2.2.2.2.1 z.2.2.2.2.2.1 z.2.2.2.2.2.2.1 z.2.2.2.2.2.2.2.1 z.2.2.2.2.2.2.2.2.1 z.2.2.2.2.2.2.2.2.2.1 z.2.2.2.2.2.2.2.2.2.2.1 z.2.2.2.2.2.2.2.2.2.2.2.1 z.2.2.2.2.2.2.2.2.2.2.2.2.1 z.2.2.2.2.2.2.2.2.2.2.2.2.2.1 z.2.2.2.2.2.2.2.2.2.2.2.2.2.2.1 ++ (oW G q ztc aTs aTn zoc aOs aOn aTp zln zpl zfa aSz zit zip zic zig z.2.2.2.2.2.2.2.2.2.2.2.2.2.2.2 ++ fr)) := by
  refine Ct.of (by decide +kernel) (Nat.le_of_ble_eq_true rfl) trivial ?_
  intro p e s m args below meth c Q A ls F hw hA hE hl
  have hx := F.x
  have hb := F.b
  unfold f_X4_field at h
  obtain ⟨H, hH⟩ : ∃ H, H = s.heap := ⟨_, rfl⟩
  obtain ⟨locs, hlo⟩ : ∃ locs : List Loc, locs = [] := ⟨_, rfl⟩
  rw [← hH, ← hlo] at hw ⊢
  have hl : lv_has ls 5 [(0, .ref (q 21)), (1, .int v1), (2, .int v2)] := hl
  refine lv_iload_n hx hb dX4_field_0 rfl (lv_at hl 1 rfl) ?_
  obtain ⟨z1, hz1, h⟩ := stB h
  refine ctS (av := [.int v1]) (st0 := ([] : List Value)) (st1 := ([.int z1] : List Value)) F hw hA (k_X4_isOddPrime hz1) kl_4_60 kd_X4_isOddPrime rfl ⟨by decide, by decide⟩ hl.1 rfl (Nat.le_of_ble_eq_true rfl) dX4_field_1 rfl (fun H locs hw => ?_)
  refine lv_if_ne (tgt := 10) hx hb dX4_field_4 (by decide) (fun c2 => ?_) (fun c2 => ?_)
  · replace h := stF c2 h
    refine lv_iload_n hx hb dX4_field_10 rfl (lv_at hl 2 rfl) ?_
    refine lv_iconst (v := 1) hx hb dX4_field_11 (by decide) ?_
    refine lv_icmp_lt (tgt := 29) hx hb dX4_field_12 (by decide) (fun c3 => ?_) (fun c3 => ?_)
    · replace h := stT c3 h
      refine lv_bipush (v := -3) hx hb dX4_field_29 (by decide) ?_
      obtain rfl := Option.some.inj h
      exact hE H locs _ ls hw dX4_field_31
    · replace h := stF c3 h
      refine lv_iload_n hx hb dX4_field_15 rfl (lv_at hl 2 rfl) ?_
      refine lv_bipush (v := 12) hx hb dX4_field_16 (by decide) ?_
      refine lv_icmp_gt (tgt := 29) hx hb dX4_field_18 (by decide) (fun c4 => ?_) (fun c4 => ?_)
      · replace h := stT c4 h
        refine lv_bipush (v := -3) hx hb dX4_field_29 (by decide) ?_
        obtain rfl := Option.some.inj h
        exact hE H locs _ ls hw dX4_field_31
      · replace h := stF c4 h
        refine lv_iload_n hx hb dX4_field_21 rfl (lv_at hl 1 rfl) ?_
        refine lv_iconst (v := 1) hx hb dX4_field_22 (by decide) ?_
        refine lv_isub hx hb dX4_field_23 ?_
        refine lv_iload_n hx hb dX4_field_24 rfl (lv_at hl 2 rfl) ?_
        obtain ⟨g5, h⟩ := stD h
        refine lv_irem hx hb dX4_field_25 g5 ?_
        refine lv_if_eq (tgt := 32) hx hb dX4_field_26 (by decide) (fun c6 => ?_) (fun c6 => ?_)
        · replace h := stT c6 h
          refine lv_aload_n hx hb dX4_field_32 rfl (lv_at hl 0 rfl) ?_
          refine gf_4_14 F hw dX4_field_33 ?_
          refine gf_4_64 F hw dX4_field_36 ?_
          refine lv_istore_n (lv' := [(3, .int zp), (0, .ref (q 21)), (1, .int v1), (2, .int v2)]) hx hb dX4_field_39 rfl hl (by decide) rfl (fun ls hl => ?_)
          refine lv_aload_n hx hb dX4_field_40 rfl (lv_at hl 1 rfl) ?_
          refine gf_4_14 F hw dX4_field_41 ?_
          refine lv_iload_n hx hb dX4_field_44 rfl (lv_at hl 2 rfl) ?_
          refine lv_iload_n hx hb dX4_field_45 rfl (lv_at hl 3 rfl) ?_
          obtain ⟨z7, hz7, h⟩ := stB h
          refine ctV (av := [.int v1, .int v2]) (st0 := ([] : List Value)) (st1 := ([] : List Value)) F hw hA (k_X0_settle hz7) kl_4_68 kd_X0_settle rfl ⟨by decide, by decide⟩ 0 rfl rfl hl.1 rfl (Nat.le_of_ble_eq_true rfl) dX4_field_46 rfl (fun H locs hw => ?_)
          refine lv_iconst (v := 0) hx hb dX4_field_49 (by decide) ?_
          refine lv_istore (lv' := [(4, .int 0), (3, .int zp), (0, .ref (q 21)), (1, .int v1), (2, .int v2)]) hx hb dX4_field_50 hl (by decide) rfl (fun ls hl => ?_)
          exact w_X4_field_L52 F hA  FU _ _ _ _ _ _ _ _ _ _ _ _ _ _ _ _ _ z h hE H locs ls hw (lv_sub hl [2, 1, 0] rfl)
        · replace h := stF c6 h
          refine lv_bipush (v := -3) hx hb dX4_field_29 (by decide) ?_
          obtain rfl := Option.some.inj h
          exact hE H locs _ ls hw dX4_field_31
  · replace h := stT c2 h
    refine lv_bipush (v := -2) hx hb dX4_field_7 (by decide) ?_
    obtain rfl := Option.some.inj h
    exact hE H locs _ ls hw dX4_field_9
end
theorem dX4_told_0 : decode cX4_told 0 = .ok (.iload_n 1, 1) := by decide +kernel
theorem dX4_told_1 : decode cX4_told 1 = .ok (.tableswitch 75 0 4 #[35, 43, 51, 59, 67], 35) := by decide +kernel
theorem dX4_told_36 : decode cX4_told 36 = .ok (.aload_n 0, 1) := by decide +kernel
theorem dX4_told_37 : decode cX4_told 37 = .ok (.getfield 14, 3) := by decide +kernel
theorem dX4_told_40 : decode cX4_told 40 = .ok (.getfield 64, 3) := by decide +kernel
theorem dX4_told_43 : decode cX4_told 43 = .ok (.ireturn, 1) := by decide +kernel
theorem dX4_told_44 : decode cX4_told 44 = .ok (.aload_n 0, 1) := by decide +kernel
theorem dX4_told_45 : decode cX4_told 45 = .ok (.getfield 14, 3) := by decide +kernel
theorem dX4_told_48 : decode cX4_told 48 = .ok (.getfield 75, 3) := by decide +kernel
theorem dX4_told_51 : decode cX4_told 51 = .ok (.ireturn, 1) := by decide +kernel
theorem dX4_told_52 : decode cX4_told 52 = .ok (.aload_n 0, 1) := by decide +kernel
theorem dX4_told_53 : decode cX4_told 53 = .ok (.getfield 14, 3) := by decide +kernel
theorem dX4_told_56 : decode cX4_told 56 = .ok (.getfield 78, 3) := by decide +kernel
theorem dX4_told_59 : decode cX4_told 59 = .ok (.ireturn, 1) := by decide +kernel
theorem dX4_told_60 : decode cX4_told 60 = .ok (.aload_n 0, 1) := by decide +kernel
theorem dX4_told_61 : decode cX4_told 61 = .ok (.getfield 14, 3) := by decide +kernel
theorem dX4_told_64 : decode cX4_told 64 = .ok (.getfield 81, 3) := by decide +kernel
theorem dX4_told_67 : decode cX4_told 67 = .ok (.ireturn, 1) := by decide +kernel
theorem dX4_told_68 : decode cX4_told 68 = .ok (.aload_n 0, 1) := by decide +kernel
theorem dX4_told_69 : decode cX4_told 69 = .ok (.getfield 14, 3) := by decide +kernel
theorem dX4_told_72 : decode cX4_told 72 = .ok (.getfield 84, 3) := by decide +kernel
theorem dX4_told_75 : decode cX4_told 75 = .ok (.ireturn, 1) := by decide +kernel
theorem dX4_told_76 : decode cX4_told 76 = .ok (.iconst (-1), 1) := by decide +kernel
theorem dX4_told_77 : decode cX4_told 77 = .ok (.ireturn, 1) := by decide +kernel
section
variable {p : Program} {l : Launch} {e : Env} {s : State} {m : MethodId} {args : Array Value} {below : List Frame} {meth : Method} {c : Code} {Q : State → Prop} {G : GG} {A : Nat → Prop} {q : Nat → Nat} {fr : va_W}
def f_X4_told (zp : Int32) (ze : Int32) (zf : Int32) (zg : Int32) (zn : Int32) (v1 : Int32) : Option (Int32) :=
  if v1 = 0 then
  some zp
  else
  if v1 = 1 then
  some ze
  else
  if v1 = 2 then
  some zf
  else
  if v1 = 3 then
  some zg
  else
  if v1 = 4 then
  some zn
  else
  some (-1)
set_option maxHeartbeats 4000000 in
set_option maxRecDepth 100000 in
theorem k_X4_told {l : Launch} {G : GG} {q : Nat → Nat} {fr : va_W}  {zp : Int32} {ze : Int32} {zf : Int32} {zg : Int32} {zn : Int32} {aG : Nat → Int32} {aW : Nat → Int32} {aR : Nat → Int32} {aN : Nat → Int32} {aF : Nat → Int32} {lC : Nat → Int64} {lS : Nat → Int64} {lP : Nat → Int64} {lX : Nat → Int64} {ztc : Int32} {aTs : Nat → Int32} {aTn : Nat → Int32} {zoc : Int32} {aOs : Nat → Int32} {aOn : Nat → Int32} {aTp : Nat → Int32} {zln : Int32} {zpl : Int32} {zfa : Int32} {aSz : Nat → Int32} {zit : Int32} {zip : Int32} {zic : Int32} {zig : Int32} {M : Nat → Nat → Int64} {v1 : Int32} {z : Int32}  (h : f_X4_told zp ze zf zg zn v1 = some z) : Ct l G yX4_told cX4_told 2 (some .int) 0 0 [.ref (q 21), .int v1] (kW G q zp ze zf zg zn aG aW aR aN aF lC lS lP lX ++ (oW G q ztc aTs aTn zoc aOs aOn aTp zln zpl zfa aSz zit zip zic zig M ++ fr)) (some (.int z)) (kW G q zp ze zf zg zn aG aW aR aN aF lC lS lP lX ++ (oW G q ztc aTs aTn zoc aOs aOn aTp zln zpl zfa aSz zit zip zic zig M ++ fr)) := by
  refine Ct.of (by decide +kernel) (Nat.le_of_ble_eq_true rfl) trivial ?_
  intro p e s m args below meth c Q A ls F hw hA hE hl
  have hx := F.x
  have hb := F.b
  unfold f_X4_told at h
  obtain ⟨H, hH⟩ : ∃ H, H = s.heap := ⟨_, rfl⟩
  obtain ⟨locs, hlo⟩ : ∃ locs : List Loc, locs = [] := ⟨_, rfl⟩
  rw [← hH, ← hlo] at hw ⊢
  have hl : lv_has ls 2 [(0, .ref (q 21)), (1, .int v1)] := hl
  refine lv_iload_n hx hb dX4_told_0 rfl (lv_at hl 1 rfl) ?_
  by_cases c1 : v1 = 0
  · replace h := stT c1 h
    refine lv_tableIn (off := 35) (tgt := 36) hx hb dX4_told_1 (by rw [c1]; decide) (by rw [c1]; decide) (by rw [c1]; rfl) (by decide) ?_
    refine lv_aload_n hx hb dX4_told_36 rfl (lv_at hl 0 rfl) ?_
    refine gf_4_14 F hw dX4_told_37 ?_
    refine gf_4_64 F hw dX4_told_40 ?_
    obtain rfl := Option.some.inj h
    exact hE H locs _ ls hw dX4_told_43
  replace h := stF c1 h
  by_cases c2 : v1 = 1
  · replace h := stT c2 h
    refine lv_tableIn (off := 43) (tgt := 44) hx hb dX4_told_1 (by rw [c2]; decide) (by rw [c2]; decide) (by rw [c2]; rfl) (by decide) ?_
    refine lv_aload_n hx hb dX4_told_44 rfl (lv_at hl 0 rfl) ?_
    refine gf_4_14 F hw dX4_told_45 ?_
    refine gf_4_75 F hw dX4_told_48 ?_
    obtain rfl := Option.some.inj h
    exact hE H locs _ ls hw dX4_told_51
  replace h := stF c2 h
  by_cases c3 : v1 = 2
  · replace h := stT c3 h
    refine lv_tableIn (off := 51) (tgt := 52) hx hb dX4_told_1 (by rw [c3]; decide) (by rw [c3]; decide) (by rw [c3]; rfl) (by decide) ?_
    refine lv_aload_n hx hb dX4_told_52 rfl (lv_at hl 0 rfl) ?_
    refine gf_4_14 F hw dX4_told_53 ?_
    refine gf_4_78 F hw dX4_told_56 ?_
    obtain rfl := Option.some.inj h
    exact hE H locs _ ls hw dX4_told_59
  replace h := stF c3 h
  by_cases c4 : v1 = 3
  · replace h := stT c4 h
    refine lv_tableIn (off := 59) (tgt := 60) hx hb dX4_told_1 (by rw [c4]; decide) (by rw [c4]; decide) (by rw [c4]; rfl) (by decide) ?_
    refine lv_aload_n hx hb dX4_told_60 rfl (lv_at hl 0 rfl) ?_
    refine gf_4_14 F hw dX4_told_61 ?_
    refine gf_4_81 F hw dX4_told_64 ?_
    obtain rfl := Option.some.inj h
    exact hE H locs _ ls hw dX4_told_67
  replace h := stF c4 h
  by_cases c5 : v1 = 4
  · replace h := stT c5 h
    refine lv_tableIn (off := 67) (tgt := 68) hx hb dX4_told_1 (by rw [c5]; decide) (by rw [c5]; decide) (by rw [c5]; rfl) (by decide) ?_
    refine lv_aload_n hx hb dX4_told_68 rfl (lv_at hl 0 rfl) ?_
    refine gf_4_14 F hw dX4_told_69 ?_
    refine gf_4_84 F hw dX4_told_72 ?_
    obtain rfl := Option.some.inj h
    exact hE H locs _ ls hw dX4_told_75
  replace h := stF c5 h
  refine lv_tableOut (tgt := 76) hx hb dX4_told_1 (tsw5 c1 c2 c3 c4 c5) (by decide) ?_
  refine lv_iconst (v := -1) hx hb dX4_told_76 (by decide) ?_
  obtain rfl := Option.some.inj h
  exact hE H locs _ ls hw dX4_told_77
end
theorem dX4_generator_0 : decode cX4_generator 0 = .ok (.iload_n 1, 1) := by decide +kernel
theorem dX4_generator_1 : decode cX4_generator 1 = .ok (.ifCond .lt 14, 3) := by decide +kernel
theorem dX4_generator_4 : decode cX4_generator 4 = .ok (.iload_n 1, 1) := by decide +kernel
theorem dX4_generator_5 : decode cX4_generator 5 = .ok (.aload_n 0, 1) := by decide +kernel
theorem dX4_generator_6 : decode cX4_generator 6 = .ok (.getfield 14, 3) := by decide +kernel
theorem dX4_generator_9 : decode cX4_generator 9 = .ok (.getfield 84, 3) := by decide +kernel
theorem dX4_generator_12 : decode cX4_generator 12 = .ok (.if_icmp .lt 5, 3) := by decide +kernel
theorem dX4_generator_15 : decode cX4_generator 15 = .ok (.iconst (-1), 1) := by decide +kernel
theorem dX4_generator_16 : decode cX4_generator 16 = .ok (.ireturn, 1) := by decide +kernel
theorem dX4_generator_17 : decode cX4_generator 17 = .ok (.aload_n 0, 1) := by decide +kernel
theorem dX4_generator_18 : decode cX4_generator 18 = .ok (.getfield 14, 3) := by decide +kernel
theorem dX4_generator_21 : decode cX4_generator 21 = .ok (.getfield 87, 3) := by decide +kernel
theorem dX4_generator_24 : decode cX4_generator 24 = .ok (.iload_n 1, 1) := by decide +kernel
theorem dX4_generator_25 : decode cX4_generator 25 = .ok (.iaload, 1) := by decide +kernel
theorem dX4_generator_26 : decode cX4_generator 26 = .ok (.ireturn, 1) := by decide +kernel
section
variable {p : Program} {l : Launch} {e : Env} {s : State} {m : MethodId} {args : Array Value} {below : List Frame} {meth : Method} {c : Code} {Q : State → Prop} {G : GG} {A : Nat → Prop} {q : Nat → Nat} {fr : va_W}
def f_X4_generator (zn : Int32) (aG : Nat → Int32) (v1 : Int32) : Option (Int32) :=
  if v1 < 0 then
  some (-1)
  else
  if v1 < zn then
  if inb v1 61 then
  some (aG v1.toNatClampNeg)
  else none
  else
  some (-1)
set_option maxHeartbeats 4000000 in
set_option maxRecDepth 100000 in
theorem k_X4_generator {l : Launch} {G : GG} {q : Nat → Nat} {fr : va_W}  {zp : Int32} {ze : Int32} {zf : Int32} {zg : Int32} {zn : Int32} {aG : Nat → Int32} {aW : Nat → Int32} {aR : Nat → Int32} {aN : Nat → Int32} {aF : Nat → Int32} {lC : Nat → Int64} {lS : Nat → Int64} {lP : Nat → Int64} {lX : Nat → Int64} {ztc : Int32} {aTs : Nat → Int32} {aTn : Nat → Int32} {zoc : Int32} {aOs : Nat → Int32} {aOn : Nat → Int32} {aTp : Nat → Int32} {zln : Int32} {zpl : Int32} {zfa : Int32} {aSz : Nat → Int32} {zit : Int32} {zip : Int32} {zic : Int32} {zig : Int32} {M : Nat → Nat → Int64} {v1 : Int32} {z : Int32}  (h : f_X4_generator zn aG v1 = some z) : Ct l G yX4_generator cX4_generator 2 (some .int) 0 0 [.ref (q 21), .int v1] (kW G q zp ze zf zg zn aG aW aR aN aF lC lS lP lX ++ (oW G q ztc aTs aTn zoc aOs aOn aTp zln zpl zfa aSz zit zip zic zig M ++ fr)) (some (.int z)) (kW G q zp ze zf zg zn aG aW aR aN aF lC lS lP lX ++ (oW G q ztc aTs aTn zoc aOs aOn aTp zln zpl zfa aSz zit zip zic zig M ++ fr)) := by
  refine Ct.of (by decide +kernel) (Nat.le_of_ble_eq_true rfl) trivial ?_
  intro p e s m args below meth c Q A ls F hw hA hE hl
  have hx := F.x
  have hb := F.b
  unfold f_X4_generator at h
  obtain ⟨H, hH⟩ : ∃ H, H = s.heap := ⟨_, rfl⟩
  obtain ⟨locs, hlo⟩ : ∃ locs : List Loc, locs = [] := ⟨_, rfl⟩
  rw [← hH, ← hlo] at hw ⊢
  have hl : lv_has ls 2 [(0, .ref (q 21)), (1, .int v1)] := hl
  refine lv_iload_n hx hb dX4_generator_0 rfl (lv_at hl 1 rfl) ?_
  refine lv_if_lt (tgt := 15) hx hb dX4_generator_1 (by decide) (fun c1 => ?_) (fun c1 => ?_)
  · replace h := stT c1 h
    refine lv_iconst (v := -1) hx hb dX4_generator_15 (by decide) ?_
    obtain rfl := Option.some.inj h
    exact hE H locs _ ls hw dX4_generator_16
  · replace h := stF c1 h
    refine lv_iload_n hx hb dX4_generator_4 rfl (lv_at hl 1 rfl) ?_
    refine lv_aload_n hx hb dX4_generator_5 rfl (lv_at hl 0 rfl) ?_
    refine gf_4_14 F hw dX4_generator_6 ?_
    refine gf_4_84 F hw dX4_generator_9 ?_
    refine lv_icmp_lt (tgt := 17) hx hb dX4_generator_12 (by decide) (fun c2 => ?_) (fun c2 => ?_)
    · replace h := stT c2 h
      refine lv_aload_n hx hb dX4_generator_17 rfl (lv_at hl 0 rfl) ?_
      refine gf_4_14 F hw dX4_generator_18 ?_
      refine gf_4_87 F hw dX4_generator_21 ?_
      refine lv_iload_n hx hb dX4_generator_24 rfl (lv_at hl 1 rfl) ?_
      obtain ⟨g3, h⟩ := stG h
      refine al_c1 F hw g3 dX4_generator_25 ?_
      obtain rfl := Option.some.inj h
      exact hE H locs _ ls hw dX4_generator_26
    · replace h := stF c2 h
      refine lv_iconst (v := -1) hx hb dX4_generator_15 (by decide) ?_
      obtain rfl := Option.some.inj h
      exact hE H locs _ ls hw dX4_generator_16
end
theorem dX4_use_0 : decode cX4_use 0 = .ok (.aload_n 0, 1) := by decide +kernel
theorem dX4_use_1 : decode cX4_use 1 = .ok (.getfield 14, 3) := by decide +kernel
theorem dX4_use_4 : decode cX4_use 4 = .ok (.iload_n 1, 1) := by decide +kernel
theorem dX4_use_5 : decode cX4_use 5 = .ok (.invokevirtual 90, 3) := by decide +kernel
theorem dX4_use_8 : decode cX4_use 8 = .ok (.ifCond .ne 6, 3) := by decide +kernel
theorem dX4_use_11 : decode cX4_use 11 = .ok (.bipush (-2), 2) := by decide +kernel
theorem dX4_use_13 : decode cX4_use 13 = .ok (.ireturn, 1) := by decide +kernel
theorem dX4_use_14 : decode cX4_use 14 = .ok (.aload_n 0, 1) := by decide +kernel
theorem dX4_use_15 : decode cX4_use 15 = .ok (.getfield 14, 3) := by decide +kernel
theorem dX4_use_18 : decode cX4_use 18 = .ok (.getfield 81, 3) := by decide +kernel
theorem dX4_use_21 : decode cX4_use 21 = .ok (.istore_n 2, 1) := by decide +kernel
theorem dX4_use_22 : decode cX4_use 22 = .ok (.aload_n 0, 1) := by decide +kernel
theorem dX4_use_23 : decode cX4_use 23 = .ok (.getfield 14, 3) := by decide +kernel
theorem dX4_use_26 : decode cX4_use 26 = .ok (.iload_n 1, 1) := by decide +kernel
theorem dX4_use_27 : decode cX4_use 27 = .ok (.invokevirtual 93, 3) := by decide +kernel
theorem dX4_use_30 : decode cX4_use 30 = .ok (.iload_n 2, 1) := by decide +kernel
theorem dX4_use_31 : decode cX4_use 31 = .ok (.ireturn, 1) := by decide +kernel
section
variable {p : Program} {l : Launch} {e : Env} {s : State} {m : MethodId} {args : Array Value} {below : List Frame} {meth : Method} {c : Code} {Q : State → Prop} {G : GG} {A : Nat → Prop} {q : Nat → Nat} {fr : va_W}
def f_X4_use (zp : Int32) (ze : Int32) (zf : Int32) (zg : Int32) (aW : Nat → Int32) (aN : Nat → Int32) (aF : Nat → Int32) (v1 : Int32) : Option (Int32 × Int32 × (Nat → Int32) × (Nat → Int32) × (Nat → Int32)) :=
  (f_X0_isGenerator zp v1).bind fun z1 =>
  if z1 = 0 then
  some ((-2), zg, aW, aN, aF)
  else
  (f_X0_takeGenerator zp ze zf zg aW aN aF v1).bind fun z3 =>
  some (zg, z3.1, z3.2.1, z3.2.2.1, z3.2.2.2)
set_option maxHeartbeats 4000000 in
set_option maxRecDepth 100000 in
theorem k_X4_use {l : Launch} {G : GG} {q : Nat → Nat} {fr : va_W}  {zp : Int32} {ze : Int32} {zf : Int32} {zg : Int32} {zn : Int32} {aG : Nat → Int32} {aW : Nat → Int32} {aR : Nat → Int32} {aN : Nat → Int32} {aF : Nat → Int32} {lC : Nat → Int64} {lS : Nat → Int64} {lP : Nat → Int64} {lX : Nat → Int64} {ztc : Int32} {aTs : Nat → Int32} {aTn : Nat → Int32} {zoc : Int32} {aOs : Nat → Int32} {aOn : Nat → Int32} {aTp : Nat → Int32} {zln : Int32} {zpl : Int32} {zfa : Int32} {aSz : Nat → Int32} {zit : Int32} {zip : Int32} {zic : Int32} {zig : Int32} {M : Nat → Nat → Int64} {v1 : Int32} {z : Int32 × Int32 × (Nat → Int32) × (Nat → Int32) × (Nat → Int32)}  (h : f_X4_use zp ze zf zg aW aN aF v1 = some z) : Ct l G yX4_use cX4_use 3 (some .int) 4 91 [.ref (q 21), .int v1] (kW G q zp ze zf zg zn aG aW aR aN aF lC lS lP lX ++ (oW G q ztc aTs aTn zoc aOs aOn aTp zln zpl zfa aSz zit zip zic zig M ++ fr)) (some (.int z.1)) (kW G q zp ze zf z.2.1 zn aG z.2.2.1 aR z.2.2.2.1 z.2.2.2.2 lC lS lP lX ++ (oW G q ztc aTs aTn zoc aOs aOn aTp zln zpl zfa aSz zit zip zic zig M ++ fr)) := by
  refine Ct.of (by decide +kernel) (Nat.le_of_ble_eq_true rfl) trivial ?_
  intro p e s m args below meth c Q A ls F hw hA hE hl
  have hx := F.x
  have hb := F.b
  unfold f_X4_use at h
  obtain ⟨H, hH⟩ : ∃ H, H = s.heap := ⟨_, rfl⟩
  obtain ⟨locs, hlo⟩ : ∃ locs : List Loc, locs = [] := ⟨_, rfl⟩
  rw [← hH, ← hlo] at hw ⊢
  have hl : lv_has ls 3 [(0, .ref (q 21)), (1, .int v1)] := hl
  refine lv_aload_n hx hb dX4_use_0 rfl (lv_at hl 0 rfl) ?_
  refine gf_4_14 F hw dX4_use_1 ?_
  refine lv_iload_n hx hb dX4_use_4 rfl (lv_at hl 1 rfl) ?_
  obtain ⟨z1, hz1, h⟩ := stB h
  refine ctV (av := [.int v1]) (st0 := ([] : List Value)) (st1 := ([.int z1] : List Value)) F hw hA (k_X0_isGenerator hz1) kl_4_90 kd_X0_isGenerator rfl ⟨by decide, by decide⟩ 0 rfl rfl hl.1 rfl (Nat.le_of_ble_eq_true rfl) dX4_use_5 rfl (fun H locs hw => ?_)
  refine lv_if_ne (tgt := 14) hx hb dX4_use_8 (by decide) (fun c2 => ?_) (fun c2 => ?_)
  · replace h := stF c2 h
    refine lv_aload_n hx hb dX4_use_14 rfl (lv_at hl 0 rfl) ?_
    refine gf_4_14 F hw dX4_use_15 ?_
    refine gf_4_81 F hw dX4_use_18 ?_
    refine lv_istore_n (lv' := [(2, .int zg), (0, .ref (q 21)), (1, .int v1)]) hx hb dX4_use_21 rfl hl (by decide) rfl (fun ls hl => ?_)
    refine lv_aload_n hx hb dX4_use_22 rfl (lv_at hl 1 rfl) ?_
    refine gf_4_14 F hw dX4_use_23 ?_
    refine lv_iload_n hx hb dX4_use_26 rfl (lv_at hl 2 rfl) ?_
    obtain ⟨z3, hz3, h⟩ := stB h
    refine ctV (av := [.int v1]) (st0 := ([] : List Value)) (st1 := ([] : List Value)) F hw hA (k_X0_takeGenerator hz3) kl_4_93 kd_X0_takeGenerator rfl ⟨by decide, by decide⟩ 0 rfl rfl hl.1 rfl (Nat.le_of_ble_eq_true rfl) dX4_use_27 rfl (fun H locs hw => ?_)
    refine lv_iload_n hx hb dX4_use_30 rfl (lv_at hl 0 rfl) ?_
    obtain rfl := Option.some.inj h
    exact hE H locs _ ls hw dX4_use_31
  · replace h := stT c2 h
    refine lv_bipush (v := -2) hx hb dX4_use_11 (by decide) ?_
    obtain rfl := Option.some.inj h
    exact hE H locs _ ls hw dX4_use_13
end
theorem dX4_power_0 : decode cX4_power 0 = .ok (.aload_n 0, 1) := by decide +kernel
theorem dX4_power_1 : decode cX4_power 1 = .ok (.iload_n 1, 1) := by decide +kernel
theorem dX4_power_2 : decode cX4_power 2 = .ok (.invokevirtual 97, 3) := by decide +kernel
theorem dX4_power_5 : decode cX4_power 5 = .ok (.ifCond .ne 5, 3) := by decide +kernel
theorem dX4_power_8 : decode cX4_power 8 = .ok (.iconst (-1), 1) := by decide +kernel
theorem dX4_power_9 : decode cX4_power 9 = .ok (.ireturn, 1) := by decide +kernel
theorem dX4_power_10 : decode cX4_power 10 = .ok (.aload_n 0, 1) := by decide +kernel
theorem dX4_power_11 : decode cX4_power 11 = .ok (.getfield 14, 3) := by decide +kernel
theorem dX4_power_14 : decode cX4_power 14 = .ok (.getfield 100, 3) := by decide +kernel
theorem dX4_power_17 : decode cX4_power 17 = .ok (.iload_n 1, 1) := by decide +kernel
theorem dX4_power_18 : decode cX4_power 18 = .ok (.iaload, 1) := by decide +kernel
theorem dX4_power_19 : decode cX4_power 19 = .ok (.ireturn, 1) := by decide +kernel
section
variable {p : Program} {l : Launch} {e : Env} {s : State} {m : MethodId} {args : Array Value} {below : List Frame} {meth : Method} {c : Code} {Q : State → Prop} {G : GG} {A : Nat → Prop} {q : Nat → Nat} {fr : va_W}
def f_X4_power (zp : Int32) (aW : Nat → Int32) (v1 : Int32) : Option (Int32) :=
  (f_X4_isNumberOfPrime zp v1).bind fun z1 =>
  if z1 = 0 then
  some (-1)
  else
  if inb v1 61 then
  some (aW v1.toNatClampNeg)
  else none
set_option maxHeartbeats 4000000 in
set_option maxRecDepth 100000 in
theorem k_X4_power {l : Launch} {G : GG} {q : Nat → Nat} {fr : va_W}  {zp : Int32} {ze : Int32} {zf : Int32} {zg : Int32} {zn : Int32} {aG : Nat → Int32} {aW : Nat → Int32} {aR : Nat → Int32} {aN : Nat → Int32} {aF : Nat → Int32} {lC : Nat → Int64} {lS : Nat → Int64} {lP : Nat → Int64} {lX : Nat → Int64} {ztc : Int32} {aTs : Nat → Int32} {aTn : Nat → Int32} {zoc : Int32} {aOs : Nat → Int32} {aOn : Nat → Int32} {aTp : Nat → Int32} {zln : Int32} {zpl : Int32} {zfa : Int32} {aSz : Nat → Int32} {zit : Int32} {zip : Int32} {zic : Int32} {zig : Int32} {M : Nat → Nat → Int64} {v1 : Int32} {z : Int32}  (h : f_X4_power zp aW v1 = some z) : Ct l G yX4_power cX4_power 2 (some .int) 1 21 [.ref (q 21), .int v1] (kW G q zp ze zf zg zn aG aW aR aN aF lC lS lP lX ++ (oW G q ztc aTs aTn zoc aOs aOn aTp zln zpl zfa aSz zit zip zic zig M ++ fr)) (some (.int z)) (kW G q zp ze zf zg zn aG aW aR aN aF lC lS lP lX ++ (oW G q ztc aTs aTn zoc aOs aOn aTp zln zpl zfa aSz zit zip zic zig M ++ fr)) := by
  refine Ct.of (by decide +kernel) (Nat.le_of_ble_eq_true rfl) trivial ?_
  intro p e s m args below meth c Q A ls F hw hA hE hl
  have hx := F.x
  have hb := F.b
  unfold f_X4_power at h
  obtain ⟨H, hH⟩ : ∃ H, H = s.heap := ⟨_, rfl⟩
  obtain ⟨locs, hlo⟩ : ∃ locs : List Loc, locs = [] := ⟨_, rfl⟩
  rw [← hH, ← hlo] at hw ⊢
  have hl : lv_has ls 2 [(0, .ref (q 21)), (1, .int v1)] := hl
  refine lv_aload_n hx hb dX4_power_0 rfl (lv_at hl 0 rfl) ?_
  refine lv_iload_n hx hb dX4_power_1 rfl (lv_at hl 1 rfl) ?_
  obtain ⟨z1, hz1, h⟩ := stB h
  refine ctV (av := [.int v1]) (st0 := ([] : List Value)) (st1 := ([.int z1] : List Value)) F hw hA (k_X4_isNumberOfPrime hz1) kl_4_97 kd_X4_isNumberOfPrime rfl ⟨by decide, by decide⟩ 21 rfl rfl hl.1 rfl (Nat.le_of_ble_eq_true rfl) dX4_power_2 rfl (fun H locs hw => ?_)
  refine lv_if_ne (tgt := 10) hx hb dX4_power_5 (by decide) (fun c2 => ?_) (fun c2 => ?_)
  · replace h := stF c2 h
    refine lv_aload_n hx hb dX4_power_10 rfl (lv_at hl 0 rfl) ?_
    refine gf_4_14 F hw dX4_power_11 ?_
    refine gf_4_100 F hw dX4_power_14 ?_
    refine lv_iload_n hx hb dX4_power_17 rfl (lv_at hl 1 rfl) ?_
    obtain ⟨g3, h⟩ := stG h
    refine al_c2 F hw g3 dX4_power_18 ?_
    obtain rfl := Option.some.inj h
    exact hE H locs _ ls hw dX4_power_19
  · replace h := stT c2 h
    refine lv_iconst (v := -1) hx hb dX4_power_8 (by decide) ?_
    obtain rfl := Option.some.inj h
    exact hE H locs _ ls hw dX4_power_9
end
theorem dX4_classOf_0 : decode cX4_classOf 0 = .ok (.aload_n 0, 1) := by decide +kernel
theorem dX4_classOf_1 : decode cX4_classOf 1 = .ok (.iload_n 1, 1) := by decide +kernel
theorem dX4_classOf_2 : decode cX4_classOf 2 = .ok (.invokevirtual 97, 3) := by decide +kernel
theorem dX4_classOf_5 : decode cX4_classOf 5 = .ok (.ifCond .ne 5, 3) := by decide +kernel
theorem dX4_classOf_8 : decode cX4_classOf 8 = .ok (.iconst (-1), 1) := by decide +kernel
theorem dX4_classOf_9 : decode cX4_classOf 9 = .ok (.ireturn, 1) := by decide +kernel
theorem dX4_classOf_10 : decode cX4_classOf 10 = .ok (.aload_n 0, 1) := by decide +kernel
theorem dX4_classOf_11 : decode cX4_classOf 11 = .ok (.getfield 14, 3) := by decide +kernel
theorem dX4_classOf_14 : decode cX4_classOf 14 = .ok (.getfield 100, 3) := by decide +kernel
theorem dX4_classOf_17 : decode cX4_classOf 17 = .ok (.iload_n 1, 1) := by decide +kernel
theorem dX4_classOf_18 : decode cX4_classOf 18 = .ok (.iaload, 1) := by decide +kernel
theorem dX4_classOf_19 : decode cX4_classOf 19 = .ok (.aload_n 0, 1) := by decide +kernel
theorem dX4_classOf_20 : decode cX4_classOf 20 = .ok (.getfield 14, 3) := by decide +kernel
theorem dX4_classOf_23 : decode cX4_classOf 23 = .ok (.getfield 75, 3) := by decide +kernel
theorem dX4_classOf_26 : decode cX4_classOf 26 = .ok (.irem, 1) := by decide +kernel
theorem dX4_classOf_27 : decode cX4_classOf 27 = .ok (.ireturn, 1) := by decide +kernel
section
variable {p : Program} {l : Launch} {e : Env} {s : State} {m : MethodId} {args : Array Value} {below : List Frame} {meth : Method} {c : Code} {Q : State → Prop} {G : GG} {A : Nat → Prop} {q : Nat → Nat} {fr : va_W}
def f_X4_classOf (zp : Int32) (ze : Int32) (aW : Nat → Int32) (v1 : Int32) : Option (Int32) :=
  (f_X4_isNumberOfPrime zp v1).bind fun z1 =>
  if z1 = 0 then
  some (-1)
  else
  if inb v1 61 then
  if ze = 0 then none else
  some ((aW v1.toNatClampNeg) - (aW v1.toNatClampNeg) / ze * ze)
  else none
set_option maxHeartbeats 4000000 in
set_option maxRecDepth 100000 in
theorem k_X4_classOf {l : Launch} {G : GG} {q : Nat → Nat} {fr : va_W}  {zp : Int32} {ze : Int32} {zf : Int32} {zg : Int32} {zn : Int32} {aG : Nat → Int32} {aW : Nat → Int32} {aR : Nat → Int32} {aN : Nat → Int32} {aF : Nat → Int32} {lC : Nat → Int64} {lS : Nat → Int64} {lP : Nat → Int64} {lX : Nat → Int64} {ztc : Int32} {aTs : Nat → Int32} {aTn : Nat → Int32} {zoc : Int32} {aOs : Nat → Int32} {aOn : Nat → Int32} {aTp : Nat → Int32} {zln : Int32} {zpl : Int32} {zfa : Int32} {aSz : Nat → Int32} {zit : Int32} {zip : Int32} {zic : Int32} {zig : Int32} {M : Nat → Nat → Int64} {v1 : Int32} {z : Int32}  (h : f_X4_classOf zp ze aW v1 = some z) : Ct l G yX4_classOf cX4_classOf 2 (some .int) 1 21 [.ref (q 21), .int v1] (kW G q zp ze zf zg zn aG aW aR aN aF lC lS lP lX ++ (oW G q ztc aTs aTn zoc aOs aOn aTp zln zpl zfa aSz zit zip zic zig M ++ fr)) (some (.int z)) (kW G q zp ze zf zg zn aG aW aR aN aF lC lS lP lX ++ (oW G q ztc aTs aTn zoc aOs aOn aTp zln zpl zfa aSz zit zip zic zig M ++ fr)) := by
  refine Ct.of (by decide +kernel) (Nat.le_of_ble_eq_true rfl) trivial ?_
  intro p e s m args below meth c Q A ls F hw hA hE hl
  have hx := F.x
  have hb := F.b
  unfold f_X4_classOf at h
  obtain ⟨H, hH⟩ : ∃ H, H = s.heap := ⟨_, rfl⟩
  obtain ⟨locs, hlo⟩ : ∃ locs : List Loc, locs = [] := ⟨_, rfl⟩
  rw [← hH, ← hlo] at hw ⊢
  have hl : lv_has ls 2 [(0, .ref (q 21)), (1, .int v1)] := hl
  refine lv_aload_n hx hb dX4_classOf_0 rfl (lv_at hl 0 rfl) ?_
  refine lv_iload_n hx hb dX4_classOf_1 rfl (lv_at hl 1 rfl) ?_
  obtain ⟨z1, hz1, h⟩ := stB h
  refine ctV (av := [.int v1]) (st0 := ([] : List Value)) (st1 := ([.int z1] : List Value)) F hw hA (k_X4_isNumberOfPrime hz1) kl_4_97 kd_X4_isNumberOfPrime rfl ⟨by decide, by decide⟩ 21 rfl rfl hl.1 rfl (Nat.le_of_ble_eq_true rfl) dX4_classOf_2 rfl (fun H locs hw => ?_)
  refine lv_if_ne (tgt := 10) hx hb dX4_classOf_5 (by decide) (fun c2 => ?_) (fun c2 => ?_)
  · replace h := stF c2 h
    refine lv_aload_n hx hb dX4_classOf_10 rfl (lv_at hl 0 rfl) ?_
    refine gf_4_14 F hw dX4_classOf_11 ?_
    refine gf_4_100 F hw dX4_classOf_14 ?_
    refine lv_iload_n hx hb dX4_classOf_17 rfl (lv_at hl 1 rfl) ?_
    obtain ⟨g3, h⟩ := stG h
    refine al_c2 F hw g3 dX4_classOf_18 ?_
    refine lv_aload_n hx hb dX4_classOf_19 rfl (lv_at hl 0 rfl) ?_
    refine gf_4_14 F hw dX4_classOf_20 ?_
    refine gf_4_75 F hw dX4_classOf_23 ?_
    obtain ⟨g4, h⟩ := stD h
    refine lv_irem hx hb dX4_classOf_26 g4 ?_
    obtain rfl := Option.some.inj h
    exact hE H locs _ ls hw dX4_classOf_27
  · replace h := stT c2 h
    refine lv_iconst (v := -1) hx hb dX4_classOf_8 (by decide) ?_
    obtain rfl := Option.some.inj h
    exact hE H locs _ ls hw dX4_classOf_9
end
theorem dX4_member_0 : decode cX4_member 0 = .ok (.aload_n 0, 1) := by decide +kernel
theorem dX4_member_1 : decode cX4_member 1 = .ok (.iload_n 1, 1) := by decide +kernel
theorem dX4_member_2 : decode cX4_member 2 = .ok (.invokevirtual 103, 3) := by decide +kernel
theorem dX4_member_5 : decode cX4_member 5 = .ok (.ifCond .eq 18, 3) := by decide +kernel
theorem dX4_member_8 : decode cX4_member 8 = .ok (.iload_n 2, 1) := by decide +kernel
theorem dX4_member_9 : decode cX4_member 9 = .ok (.ifCond .lt 14, 3) := by decide +kernel
theorem dX4_member_12 : decode cX4_member 12 = .ok (.iload_n 2, 1) := by decide +kernel
theorem dX4_member_13 : decode cX4_member 13 = .ok (.aload_n 0, 1) := by decide +kernel
theorem dX4_member_14 : decode cX4_member 14 = .ok (.getfield 14, 3) := by decide +kernel
theorem dX4_member_17 : decode cX4_member 17 = .ok (.getfield 78, 3) := by decide +kernel
theorem dX4_member_20 : decode cX4_member 20 = .ok (.if_icmp .lt 5, 3) := by decide +kernel
theorem dX4_member_23 : decode cX4_member 23 = .ok (.iconst (-1), 1) := by decide +kernel
theorem dX4_member_24 : decode cX4_member 24 = .ok (.ireturn, 1) := by decide +kernel
theorem dX4_member_25 : decode cX4_member 25 = .ok (.iconst 0, 1) := by decide +kernel
theorem dX4_member_26 : decode cX4_member 26 = .ok (.istore_n 3, 1) := by decide +kernel
theorem dX4_member_27 : decode cX4_member 27 = .ok (.iconst 1, 1) := by decide +kernel
theorem dX4_member_28 : decode cX4_member 28 = .ok (.istore 4, 2) := by decide +kernel
theorem dX4_member_30 : decode cX4_member 30 = .ok (.iload 4, 2) := by decide +kernel
theorem dX4_member_32 : decode cX4_member 32 = .ok (.aload_n 0, 1) := by decide +kernel
theorem dX4_member_33 : decode cX4_member 33 = .ok (.getfield 14, 3) := by decide +kernel
theorem dX4_member_36 : decode cX4_member 36 = .ok (.getfield 64, 3) := by decide +kernel
theorem dX4_member_39 : decode cX4_member 39 = .ok (.if_icmp .ge 45, 3) := by decide +kernel
theorem dX4_member_42 : decode cX4_member 42 = .ok (.aload_n 0, 1) := by decide +kernel
theorem dX4_member_43 : decode cX4_member 43 = .ok (.getfield 14, 3) := by decide +kernel
theorem dX4_member_46 : decode cX4_member 46 = .ok (.getfield 100, 3) := by decide +kernel
theorem dX4_member_49 : decode cX4_member 49 = .ok (.iload 4, 2) := by decide +kernel
theorem dX4_member_51 : decode cX4_member 51 = .ok (.iaload, 1) := by decide +kernel
theorem dX4_member_52 : decode cX4_member 52 = .ok (.aload_n 0, 1) := by decide +kernel
theorem dX4_member_53 : decode cX4_member 53 = .ok (.getfield 14, 3) := by decide +kernel
theorem dX4_member_56 : decode cX4_member 56 = .ok (.getfield 75, 3) := by decide +kernel
theorem dX4_member_59 : decode cX4_member 59 = .ok (.irem, 1) := by decide +kernel
theorem dX4_member_60 : decode cX4_member 60 = .ok (.iload_n 1, 1) := by decide +kernel
theorem dX4_member_61 : decode cX4_member 61 = .ok (.if_icmp .eq 6, 3) := by decide +kernel
theorem dX4_member_64 : decode cX4_member 64 = .ok (.goto 14, 3) := by decide +kernel
theorem dX4_member_67 : decode cX4_member 67 = .ok (.iload_n 3, 1) := by decide +kernel
theorem dX4_member_68 : decode cX4_member 68 = .ok (.iload_n 2, 1) := by decide +kernel
theorem dX4_member_69 : decode cX4_member 69 = .ok (.if_icmp .ne 6, 3) := by decide +kernel
theorem dX4_member_72 : decode cX4_member 72 = .ok (.iload 4, 2) := by decide +kernel
theorem dX4_member_74 : decode cX4_member 74 = .ok (.ireturn, 1) := by decide +kernel
theorem dX4_member_75 : decode cX4_member 75 = .ok (.iinc 3 1, 3) := by decide +kernel
theorem dX4_member_78 : decode cX4_member 78 = .ok (.iinc 4 1, 3) := by decide +kernel
theorem dX4_member_81 : decode cX4_member 81 = .ok (.goto (-51), 3) := by decide +kernel
theorem dX4_member_84 : decode cX4_member 84 = .ok (.iconst (-1), 1) := by decide +kernel
theorem dX4_member_85 : decode cX4_member 85 = .ok (.ireturn, 1) := by decide +kernel
section
variable {p : Program} {l : Launch} {e : Env} {s : State} {m : MethodId} {args : Array Value} {below : List Frame} {meth : Method} {c : Code} {Q : State → Prop} {G : GG} {A : Nat → Prop} {q : Nat → Nat} {fr : va_W}
def f_X4_member_L30 (zp : Int32) (ze : Int32) (zf : Int32) (aW : Nat → Int32) (v1 : Int32) (v2 : Int32) : Nat → Int32 → Int32 → Option (Int32)
  | 0, _, _ => none
  | fu + 1, v3, v4 =>
    if zp ≤ v4 then
    some (-1)
    else
    if inb v4 61 then
    if ze = 0 then none else
    if ((aW v4.toNatClampNeg) - (aW v4.toNatClampNeg) / ze * ze) = v1 then
    if v3 = v2 then
    some v4
    else
    f_X4_member_L30 zp ze zf aW v1 v2 fu (v3 + 1) (v4 + 1)
    else
    f_X4_member_L30 zp ze zf aW v1 v2 fu v3 (v4 + 1)
    else none
set_option maxHeartbeats 4000000 in
set_option maxRecDepth 100000 in
theorem w_X4_member_L30  {zp : Int32} {ze : Int32} {zf : Int32} {zg : Int32} {zn : Int32} {aG : Nat → Int32} {aW : Nat → Int32} {aR : Nat → Int32} {aN : Nat → Int32} {aF : Nat → Int32} {lC : Nat → Int64} {lS : Nat → Int64} {lP : Nat → Int64} {lX : Nat → Int64} {ztc : Int32} {aTs : Nat → Int32} {aTn : Nat → Int32} {zoc : Int32} {aOs : Nat → Int32} {aOn : Nat → Int32} {aTp : Nat → Int32} {zln : Int32} {zpl : Int32} {zfa : Int32} {aSz : Nat → Int32} {zit : Int32} {zip : Int32} {zic : Int32} {zig : Int32} {M : Nat → Nat → Int64} {v1 : Int32} {v2 : Int32}  (F : Fx p s m args meth c cX4_member 5 RX4 (some .int)) (hA : ∀ q, s.heap.size ≤ q → A q)   : ∀ (fu : Nat) (v3 : Int32) (v4 : Int32) (z : Int32), f_X4_member_L30 zp ze zf aW v1 v2 fu v3 v4 = some z → Ends p l e (rmOf 1 21) s m args below meth c Q cX4_member G A (some .int) (some (.int z)) (kW G q zp ze zf zg zn aG aW aR aN aF lC lS lP lX ++ (oW G q ztc aTs aTn zoc aOs aOn aTp zln zpl zfa aSz zit zip zic zig M ++ fr)) → ∀ (H : Heap) (locs : List Loc) (ls : Array Slot), Wd G s A (kW G q zp ze zf zg zn aG aW aR aN aF lC lS lP lX ++ (oW G q ztc aTs aTn zoc aOs aOn aTp zln zpl zfa aSz zit zip zic zig M ++ fr)) H locs → lv_has ls 5 [(0, .ref (q 21)), (1, .int v1), (2, .int v2), (3, .int v3), (4, .int v4)] → W p l e (rmOf 1 21) s m args below meth c H locs 0 0 Q (F0 m 30 ls []) := by
  have hx := F.x
  have hb := F.b
  intro fu
  induction fu with
  | zero =>
    intro v3 v4 z h
    cases (h : none = some z)
  | succ fu ih =>
    intro v3 v4 z h hE H locs ls hw hl
    rw [f_X4_member_L30] at h
    refine lv_iload hx hb dX4_member_30 (lv_at hl 4 rfl) ?_
    refine lv_aload_n hx hb dX4_member_32 rfl (lv_at hl 0 rfl) ?_
    refine gf_4_14 F hw dX4_member_33 ?_
    refine gf_4_64 F hw dX4_member_36 ?_
    refine lv_icmp_ge (tgt := 84) hx hb dX4_member_39 (by decide) (fun c1 => ?_) (fun c1 => ?_)
    · replace h := stT c1 h
      refine lv_iconst (v := -1) hx hb dX4_member_84 (by decide) ?_
      obtain rfl := Option.some.inj h
      exact hE H locs _ ls hw dX4_member_85
    · replace h := stF c1 h
      refine lv_aload_n hx hb dX4_member_42 rfl (lv_at hl 0 rfl) ?_
      refine gf_4_14 F hw dX4_member_43 ?_
      refine gf_4_100 F hw dX4_member_46 ?_
      refine lv_iload hx hb dX4_member_49 (lv_at hl 4 rfl) ?_
      obtain ⟨g2, h⟩ := stG h
      refine al_c2 F hw g2 dX4_member_51 ?_
      refine lv_aload_n hx hb dX4_member_52 rfl (lv_at hl 0 rfl) ?_
      refine gf_4_14 F hw dX4_member_53 ?_
      refine gf_4_75 F hw dX4_member_56 ?_
      obtain ⟨g3, h⟩ := stD h
      refine lv_irem hx hb dX4_member_59 g3 ?_
      refine lv_iload_n hx hb dX4_member_60 rfl (lv_at hl 1 rfl) ?_
      refine lv_icmp_eq (tgt := 67) hx hb dX4_member_61 (by decide) (fun c4 => ?_) (fun c4 => ?_)
      · replace h := stT c4 h
        refine lv_iload_n hx hb dX4_member_67 rfl (lv_at hl 3 rfl) ?_
        refine lv_iload_n hx hb dX4_member_68 rfl (lv_at hl 2 rfl) ?_
        refine lv_icmp_ne (tgt := 75) hx hb dX4_member_69 (by decide) (fun c5 => ?_) (fun c5 => ?_)
        · replace h := stF c5 h
          refine lv_iinc (v := (v3 + 1)) (lv' := [(3, .int (v3 + 1)), (0, .ref (q 21)), (1, .int v1), (2, .int v2), (4, .int v4)]) hx hb dX4_member_75 hl (k := 3) rfl rfl (by decide) rfl (fun ls hl => ?_)
          refine lv_iinc (v := (v4 + 1)) (lv' := [(4, .int (v4 + 1)), (3, .int (v3 + 1)), (0, .ref (q 21)), (1, .int v1), (2, .int v2)]) hx hb dX4_member_78 hl (k := 4) rfl rfl (by decide) rfl (fun ls hl => ?_)
          refine lv_goto (tgt := 30) hx hb dX4_member_81 (by decide) ?_
          exact ih _ _ z h hE H locs ls hw (lv_sub hl [2, 3, 4, 1, 0] rfl)
        · replace h := stT c5 h
          refine lv_iload hx hb dX4_member_72 (lv_at hl 4 rfl) ?_
          obtain rfl := Option.some.inj h
          exact hE H locs _ ls hw dX4_member_74
      · replace h := stF c4 h
        refine lv_goto (tgt := 78) hx hb dX4_member_64 (by decide) ?_
        refine lv_iinc (v := (v4 + 1)) (lv' := [(4, .int (v4 + 1)), (0, .ref (q 21)), (1, .int v1), (2, .int v2), (3, .int v3)]) hx hb dX4_member_78 hl (k := 4) rfl rfl (by decide) rfl (fun ls hl => ?_)
        refine lv_goto (tgt := 30) hx hb dX4_member_81 (by decide) ?_
        exact ih _ _ z h hE H locs ls hw (lv_sub hl [1, 2, 3, 4, 0] rfl)
def f_X4_member (zp : Int32) (ze : Int32) (zf : Int32) (aW : Nat → Int32) (v1 : Int32) (v2 : Int32) : Option (Int32) :=
  (f_X4_isClass ze v1).bind fun z1 =>
  if z1 = 0 then
  some (-1)
  else
  if v2 < 0 then
  some (-1)
  else
  if v2 < zf then
  f_X4_member_L30 zp ze zf aW v1 v2 FU 0 1
  else
  some (-1)
set_option maxHeartbeats 4000000 in
set_option maxRecDepth 100000 in
theorem k_X4_member {l : Launch} {G : GG} {q : Nat → Nat} {fr : va_W}  {zp : Int32} {ze : Int32} {zf : Int32} {zg : Int32} {zn : Int32} {aG : Nat → Int32} {aW : Nat → Int32} {aR : Nat → Int32} {aN : Nat → Int32} {aF : Nat → Int32} {lC : Nat → Int64} {lS : Nat → Int64} {lP : Nat → Int64} {lX : Nat → Int64} {ztc : Int32} {aTs : Nat → Int32} {aTn : Nat → Int32} {zoc : Int32} {aOs : Nat → Int32} {aOn : Nat → Int32} {aTp : Nat → Int32} {zln : Int32} {zpl : Int32} {zfa : Int32} {aSz : Nat → Int32} {zit : Int32} {zip : Int32} {zic : Int32} {zig : Int32} {M : Nat → Nat → Int64} {v1 : Int32} {v2 : Int32} {z : Int32}  (h : f_X4_member zp ze zf aW v1 v2 = some z) : Ct l G yX4_member cX4_member 5 (some .int) 1 21 [.ref (q 21), .int v1, .int v2] (kW G q zp ze zf zg zn aG aW aR aN aF lC lS lP lX ++ (oW G q ztc aTs aTn zoc aOs aOn aTp zln zpl zfa aSz zit zip zic zig M ++ fr)) (some (.int z)) (kW G q zp ze zf zg zn aG aW aR aN aF lC lS lP lX ++ (oW G q ztc aTs aTn zoc aOs aOn aTp zln zpl zfa aSz zit zip zic zig M ++ fr)) := by
  refine Ct.of (by decide +kernel) (Nat.le_of_ble_eq_true rfl) trivial ?_
  intro p e s m args below meth c Q A ls F hw hA hE hl
  have hx := F.x
  have hb := F.b
  unfold f_X4_member at h
  obtain ⟨H, hH⟩ : ∃ H, H = s.heap := ⟨_, rfl⟩
  obtain ⟨locs, hlo⟩ : ∃ locs : List Loc, locs = [] := ⟨_, rfl⟩
  rw [← hH, ← hlo] at hw ⊢
  have hl : lv_has ls 5 [(0, .ref (q 21)), (1, .int v1), (2, .int v2)] := hl
  refine lv_aload_n hx hb dX4_member_0 rfl (lv_at hl 0 rfl) ?_
  refine lv_iload_n hx hb dX4_member_1 rfl (lv_at hl 1 rfl) ?_
  obtain ⟨z1, hz1, h⟩ := stB h
  refine ctV (av := [.int v1]) (st0 := ([] : List Value)) (st1 := ([.int z1] : List Value)) F hw hA (k_X4_isClass hz1) kl_4_103 kd_X4_isClass rfl ⟨by decide, by decide⟩ 21 rfl rfl hl.1 rfl (Nat.le_of_ble_eq_true rfl) dX4_member_2 rfl (fun H locs hw => ?_)
  refine lv_if_eq (tgt := 23) hx hb dX4_member_5 (by decide) (fun c2 => ?_) (fun c2 => ?_)
  · replace h := stT c2 h
    refine lv_iconst (v := -1) hx hb dX4_member_23 (by decide) ?_
    obtain rfl := Option.some.inj h
    exact hE H locs _ ls hw dX4_member_24
  · replace h := stF c2 h
    refine lv_iload_n hx hb dX4_member_8 rfl (lv_at hl 2 rfl) ?_
    refine lv_if_lt (tgt := 23) hx hb dX4_member_9 (by decide) (fun c3 => ?_) (fun c3 => ?_)
    · replace h := stT c3 h
      refine lv_iconst (v := -1) hx hb dX4_member_23 (by decide) ?_
      obtain rfl := Option.some.inj h
      exact hE H locs _ ls hw dX4_member_24
    · replace h := stF c3 h
      refine lv_iload_n hx hb dX4_member_12 rfl (lv_at hl 2 rfl) ?_
      refine lv_aload_n hx hb dX4_member_13 rfl (lv_at hl 0 rfl) ?_
      refine gf_4_14 F hw dX4_member_14 ?_
      refine gf_4_78 F hw dX4_member_17 ?_
      refine lv_icmp_lt (tgt := 25) hx hb dX4_member_20 (by decide) (fun c4 => ?_) (fun c4 => ?_)
      · replace h := stT c4 h
        refine lv_iconst (v := 0) hx hb dX4_member_25 (by decide) ?_
        refine lv_istore_n (lv' := [(3, .int 0), (0, .ref (q 21)), (1, .int v1), (2, .int v2)]) hx hb dX4_member_26 rfl hl (by decide) rfl (fun ls hl => ?_)
        refine lv_iconst (v := 1) hx hb dX4_member_27 (by decide) ?_
        refine lv_istore (lv' := [(4, .int 1), (3, .int 0), (0, .ref (q 21)), (1, .int v1), (2, .int v2)]) hx hb dX4_member_28 hl (by decide) rfl (fun ls hl => ?_)
        exact w_X4_member_L30 F hA  FU _ _ z h hE H locs ls hw (lv_sub hl [2, 3, 4, 1, 0] rfl)
      · replace h := stF c4 h
        refine lv_iconst (v := -1) hx hb dX4_member_23 (by decide) ?_
        obtain rfl := Option.some.inj h
        exact hE H locs _ ls hw dX4_member_24
end
theorem dX4_beside_0 : decode cX4_beside 0 = .ok (.aload_n 0, 1) := by decide +kernel
theorem dX4_beside_1 : decode cX4_beside 1 = .ok (.iload_n 1, 1) := by decide +kernel
theorem dX4_beside_2 : decode cX4_beside 2 = .ok (.invokevirtual 103, 3) := by decide +kernel
theorem dX4_beside_5 : decode cX4_beside 5 = .ok (.ifCond .eq 11, 3) := by decide +kernel
theorem dX4_beside_8 : decode cX4_beside 8 = .ok (.aload_n 0, 1) := by decide +kernel
theorem dX4_beside_9 : decode cX4_beside 9 = .ok (.iload_n 2, 1) := by decide +kernel
theorem dX4_beside_10 : decode cX4_beside 10 = .ok (.invokevirtual 103, 3) := by decide +kernel
theorem dX4_beside_13 : decode cX4_beside 13 = .ok (.ifCond .ne 5, 3) := by decide +kernel
theorem dX4_beside_16 : decode cX4_beside 16 = .ok (.iconst (-1), 1) := by decide +kernel
theorem dX4_beside_17 : decode cX4_beside 17 = .ok (.ireturn, 1) := by decide +kernel
theorem dX4_beside_18 : decode cX4_beside 18 = .ok (.aload_n 0, 1) := by decide +kernel
theorem dX4_beside_19 : decode cX4_beside 19 = .ok (.getfield 14, 3) := by decide +kernel
theorem dX4_beside_22 : decode cX4_beside 22 = .ok (.getfield 106, 3) := by decide +kernel
theorem dX4_beside_25 : decode cX4_beside 25 = .ok (.iload_n 1, 1) := by decide +kernel
theorem dX4_beside_26 : decode cX4_beside 26 = .ok (.bipush 12, 2) := by decide +kernel
theorem dX4_beside_28 : decode cX4_beside 28 = .ok (.imul, 1) := by decide +kernel
theorem dX4_beside_29 : decode cX4_beside 29 = .ok (.iload_n 2, 1) := by decide +kernel
theorem dX4_beside_30 : decode cX4_beside 30 = .ok (.iadd, 1) := by decide +kernel
theorem dX4_beside_31 : decode cX4_beside 31 = .ok (.iaload, 1) := by decide +kernel
theorem dX4_beside_32 : decode cX4_beside 32 = .ok (.ireturn, 1) := by decide +kernel
section
variable {p : Program} {l : Launch} {e : Env} {s : State} {m : MethodId} {args : Array Value} {below : List Frame} {meth : Method} {c : Code} {Q : State → Prop} {G : GG} {A : Nat → Prop} {q : Nat → Nat} {fr : va_W}
def f_X4_beside (ze : Int32) (aN : Nat → Int32) (v1 : Int32) (v2 : Int32) : Option (Int32) :=
  (f_X4_isClass ze v1).bind fun z1 =>
  if z1 = 0 then
  some (-1)
  else
  (f_X4_isClass ze v2).bind fun z3 =>
  if z3 = 0 then
  some (-1)
  else
  if inb ((v1 * 12) + v2) 144 then
  some (aN ((v1 * 12) + v2).toNatClampNeg)
  else none
set_option maxHeartbeats 4000000 in
set_option maxRecDepth 100000 in
theorem k_X4_beside {l : Launch} {G : GG} {q : Nat → Nat} {fr : va_W}  {zp : Int32} {ze : Int32} {zf : Int32} {zg : Int32} {zn : Int32} {aG : Nat → Int32} {aW : Nat → Int32} {aR : Nat → Int32} {aN : Nat → Int32} {aF : Nat → Int32} {lC : Nat → Int64} {lS : Nat → Int64} {lP : Nat → Int64} {lX : Nat → Int64} {ztc : Int32} {aTs : Nat → Int32} {aTn : Nat → Int32} {zoc : Int32} {aOs : Nat → Int32} {aOn : Nat → Int32} {aTp : Nat → Int32} {zln : Int32} {zpl : Int32} {zfa : Int32} {aSz : Nat → Int32} {zit : Int32} {zip : Int32} {zic : Int32} {zig : Int32} {M : Nat → Nat → Int64} {v1 : Int32} {v2 : Int32} {z : Int32}  (h : f_X4_beside ze aN v1 v2 = some z) : Ct l G yX4_beside cX4_beside 3 (some .int) 1 21 [.ref (q 21), .int v1, .int v2] (kW G q zp ze zf zg zn aG aW aR aN aF lC lS lP lX ++ (oW G q ztc aTs aTn zoc aOs aOn aTp zln zpl zfa aSz zit zip zic zig M ++ fr)) (some (.int z)) (kW G q zp ze zf zg zn aG aW aR aN aF lC lS lP lX ++ (oW G q ztc aTs aTn zoc aOs aOn aTp zln zpl zfa aSz zit zip zic zig M ++ fr)) := by
  refine Ct.of (by decide +kernel) (Nat.le_of_ble_eq_true rfl) trivial ?_
  intro p e s m args below meth c Q A ls F hw hA hE hl
  have hx := F.x
  have hb := F.b
  unfold f_X4_beside at h
  obtain ⟨H, hH⟩ : ∃ H, H = s.heap := ⟨_, rfl⟩
  obtain ⟨locs, hlo⟩ : ∃ locs : List Loc, locs = [] := ⟨_, rfl⟩
  rw [← hH, ← hlo] at hw ⊢
  have hl : lv_has ls 3 [(0, .ref (q 21)), (1, .int v1), (2, .int v2)] := hl
  refine lv_aload_n hx hb dX4_beside_0 rfl (lv_at hl 0 rfl) ?_
  refine lv_iload_n hx hb dX4_beside_1 rfl (lv_at hl 1 rfl) ?_
  obtain ⟨z1, hz1, h⟩ := stB h
  refine ctV (av := [.int v1]) (st0 := ([] : List Value)) (st1 := ([.int z1] : List Value)) F hw hA (k_X4_isClass hz1) kl_4_103 kd_X4_isClass rfl ⟨by decide, by decide⟩ 21 rfl rfl hl.1 rfl (Nat.le_of_ble_eq_true rfl) dX4_beside_2 rfl (fun H locs hw => ?_)
  refine lv_if_eq (tgt := 16) hx hb dX4_beside_5 (by decide) (fun c2 => ?_) (fun c2 => ?_)
  · replace h := stT c2 h
    refine lv_iconst (v := -1) hx hb dX4_beside_16 (by decide) ?_
    obtain rfl := Option.some.inj h
    exact hE H locs _ ls hw dX4_beside_17
  · replace h := stF c2 h
    refine lv_aload_n hx hb dX4_beside_8 rfl (lv_at hl 0 rfl) ?_
    refine lv_iload_n hx hb dX4_beside_9 rfl (lv_at hl 2 rfl) ?_
    obtain ⟨z3, hz3, h⟩ := stB h
    refine ctV (av := [.int v2]) (st0 := ([] : List Value)) (st1 := ([.int z3] : List Value)) F hw hA (k_X4_isClass hz3) kl_4_103 kd_X4_isClass rfl ⟨by decide, by decide⟩ 21 rfl rfl hl.1 rfl (Nat.le_of_ble_eq_true rfl) dX4_beside_10 rfl (fun H locs hw => ?_)
    refine lv_if_ne (tgt := 18) hx hb dX4_beside_13 (by decide) (fun c4 => ?_) (fun c4 => ?_)
    · replace h := stF c4 h
      refine lv_aload_n hx hb dX4_beside_18 rfl (lv_at hl 0 rfl) ?_
      refine gf_4_14 F hw dX4_beside_19 ?_
      refine gf_4_106 F hw dX4_beside_22 ?_
      refine lv_iload_n hx hb dX4_beside_25 rfl (lv_at hl 1 rfl) ?_
      refine lv_bipush (v := 12) hx hb dX4_beside_26 (by decide) ?_
      refine lv_imul hx hb dX4_beside_28 ?_
      refine lv_iload_n hx hb dX4_beside_29 rfl (lv_at hl 2 rfl) ?_
      refine lv_iadd hx hb dX4_beside_30 ?_
      obtain ⟨g5, h⟩ := stG h
      refine al_c4 F hw g5 dX4_beside_31 ?_
      obtain rfl := Option.some.inj h
      exact hE H locs _ ls hw dX4_beside_32
    · replace h := stT c4 h
      refine lv_iconst (v := -1) hx hb dX4_beside_16 (by decide) ?_
      obtain rfl := Option.some.inj h
      exact hE H locs _ ls hw dX4_beside_17
end
theorem dX4_meets_0 : decode cX4_meets 0 = .ok (.aload_n 0, 1) := by decide +kernel
theorem dX4_meets_1 : decode cX4_meets 1 = .ok (.iload_n 1, 1) := by decide +kernel
theorem dX4_meets_2 : decode cX4_meets 2 = .ok (.invokevirtual 103, 3) := by decide +kernel
theorem dX4_meets_5 : decode cX4_meets 5 = .ok (.ifCond .eq 19, 3) := by decide +kernel
theorem dX4_meets_8 : decode cX4_meets 8 = .ok (.aload_n 0, 1) := by decide +kernel
theorem dX4_meets_9 : decode cX4_meets 9 = .ok (.iload_n 2, 1) := by decide +kernel
theorem dX4_meets_10 : decode cX4_meets 10 = .ok (.invokevirtual 103, 3) := by decide +kernel
theorem dX4_meets_13 : decode cX4_meets 13 = .ok (.ifCond .eq 11, 3) := by decide +kernel
theorem dX4_meets_16 : decode cX4_meets 16 = .ok (.aload_n 0, 1) := by decide +kernel
theorem dX4_meets_17 : decode cX4_meets 17 = .ok (.iload_n 3, 1) := by decide +kernel
theorem dX4_meets_18 : decode cX4_meets 18 = .ok (.invokevirtual 103, 3) := by decide +kernel
theorem dX4_meets_21 : decode cX4_meets 21 = .ok (.ifCond .ne 5, 3) := by decide +kernel
theorem dX4_meets_24 : decode cX4_meets 24 = .ok (.iconst (-1), 1) := by decide +kernel
theorem dX4_meets_25 : decode cX4_meets 25 = .ok (.ireturn, 1) := by decide +kernel
theorem dX4_meets_26 : decode cX4_meets 26 = .ok (.aload_n 0, 1) := by decide +kernel
theorem dX4_meets_27 : decode cX4_meets 27 = .ok (.getfield 14, 3) := by decide +kernel
theorem dX4_meets_30 : decode cX4_meets 30 = .ok (.getfield 109, 3) := by decide +kernel
theorem dX4_meets_33 : decode cX4_meets 33 = .ok (.iload_n 1, 1) := by decide +kernel
theorem dX4_meets_34 : decode cX4_meets 34 = .ok (.iload_n 2, 1) := by decide +kernel
theorem dX4_meets_35 : decode cX4_meets 35 = .ok (.iload_n 3, 1) := by decide +kernel
theorem dX4_meets_36 : decode cX4_meets 36 = .ok (.invokestatic 112, 3) := by decide +kernel
theorem dX4_meets_39 : decode cX4_meets 39 = .ok (.iaload, 1) := by decide +kernel
theorem dX4_meets_40 : decode cX4_meets 40 = .ok (.istore 4, 2) := by decide +kernel
theorem dX4_meets_42 : decode cX4_meets 42 = .ok (.aload_n 0, 1) := by decide +kernel
theorem dX4_meets_43 : decode cX4_meets 43 = .ok (.getfield 14, 3) := by decide +kernel
theorem dX4_meets_46 : decode cX4_meets 46 = .ok (.iload_n 1, 1) := by decide +kernel
theorem dX4_meets_47 : decode cX4_meets 47 = .ok (.invokevirtual 116, 3) := by decide +kernel
theorem dX4_meets_50 : decode cX4_meets 50 = .ok (.iload_n 2, 1) := by decide +kernel
theorem dX4_meets_51 : decode cX4_meets 51 = .ok (.if_icmp .ne 16, 3) := by decide +kernel
theorem dX4_meets_54 : decode cX4_meets 54 = .ok (.iload 4, 2) := by decide +kernel
theorem dX4_meets_56 : decode cX4_meets 56 = .ok (.aload_n 0, 1) := by decide +kernel
theorem dX4_meets_57 : decode cX4_meets 57 = .ok (.getfield 14, 3) := by decide +kernel
theorem dX4_meets_60 : decode cX4_meets 60 = .ok (.getfield 78, 3) := by decide +kernel
theorem dX4_meets_63 : decode cX4_meets 63 = .ok (.iadd, 1) := by decide +kernel
theorem dX4_meets_64 : decode cX4_meets 64 = .ok (.goto 5, 3) := by decide +kernel
theorem dX4_meets_67 : decode cX4_meets 67 = .ok (.iload 4, 2) := by decide +kernel
theorem dX4_meets_69 : decode cX4_meets 69 = .ok (.ireturn, 1) := by decide +kernel
section
variable {p : Program} {l : Launch} {e : Env} {s : State} {m : MethodId} {args : Array Value} {below : List Frame} {meth : Method} {c : Code} {Q : State → Prop} {G : GG} {A : Nat → Prop} {q : Nat → Nat} {fr : va_W}
def f_X4_meets (zp : Int32) (ze : Int32) (zf : Int32) (aF : Nat → Int32) (v1 : Int32) (v2 : Int32) (v3 : Int32) : Option (Int32) :=
  (f_X4_isClass ze v1).bind fun z1 =>
  if z1 = 0 then
  some (-1)
  else
  (f_X4_isClass ze v2).bind fun z3 =>
  if z3 = 0 then
  some (-1)
  else
  (f_X4_isClass ze v3).bind fun z5 =>
  if z5 = 0 then
  some (-1)
  else
  (f_X4_factorIndex v1 v2 v3).bind fun z7 =>
  if inb z7 1728 then
  (f_X0_oppositeOf zp ze v1).bind fun z9 =>
  if z9 = v2 then
  some ((aF z7.toNatClampNeg) + zf)
  else
  some (aF z7.toNatClampNeg)
  else none
set_option maxHeartbeats 4000000 in
set_option maxRecDepth 100000 in
theorem k_X4_meets {l : Launch} {G : GG} {q : Nat → Nat} {fr : va_W}  {zp : Int32} {ze : Int32} {zf : Int32} {zg : Int32} {zn : Int32} {aG : Nat → Int32} {aW : Nat → Int32} {aR : Nat → Int32} {aN : Nat → Int32} {aF : Nat → Int32} {lC : Nat → Int64} {lS : Nat → Int64} {lP : Nat → Int64} {lX : Nat → Int64} {ztc : Int32} {aTs : Nat → Int32} {aTn : Nat → Int32} {zoc : Int32} {aOs : Nat → Int32} {aOn : Nat → Int32} {aTp : Nat → Int32} {zln : Int32} {zpl : Int32} {zfa : Int32} {aSz : Nat → Int32} {zit : Int32} {zip : Int32} {zic : Int32} {zig : Int32} {M : Nat → Nat → Int64} {v1 : Int32} {v2 : Int32} {v3 : Int32} {z : Int32}  (h : f_X4_meets zp ze zf aF v1 v2 v3 = some z) : Ct l G yX4_meets cX4_meets 5 (some .int) 1 22 [.ref (q 21), .int v1, .int v2, .int v3] (kW G q zp ze zf zg zn aG aW aR aN aF lC lS lP lX ++ (oW G q ztc aTs aTn zoc aOs aOn aTp zln zpl zfa aSz zit zip zic zig M ++ fr)) (some (.int z)) (kW G q zp ze zf zg zn aG aW aR aN aF lC lS lP lX ++ (oW G q ztc aTs aTn zoc aOs aOn aTp zln zpl zfa aSz zit zip zic zig M ++ fr)) := by
  refine Ct.of (by decide +kernel) (Nat.le_of_ble_eq_true rfl) trivial ?_
  intro p e s m args below meth c Q A ls F hw hA hE hl
  have hx := F.x
  have hb := F.b
  unfold f_X4_meets at h
  obtain ⟨H, hH⟩ : ∃ H, H = s.heap := ⟨_, rfl⟩
  obtain ⟨locs, hlo⟩ : ∃ locs : List Loc, locs = [] := ⟨_, rfl⟩
  rw [← hH, ← hlo] at hw ⊢
  have hl : lv_has ls 5 [(0, .ref (q 21)), (1, .int v1), (2, .int v2), (3, .int v3)] := hl
  refine lv_aload_n hx hb dX4_meets_0 rfl (lv_at hl 0 rfl) ?_
  refine lv_iload_n hx hb dX4_meets_1 rfl (lv_at hl 1 rfl) ?_
  obtain ⟨z1, hz1, h⟩ := stB h
  refine ctV (av := [.int v1]) (st0 := ([] : List Value)) (st1 := ([.int z1] : List Value)) F hw hA (k_X4_isClass hz1) kl_4_103 kd_X4_isClass rfl ⟨by decide, by decide⟩ 21 rfl rfl hl.1 rfl (Nat.le_of_ble_eq_true rfl) dX4_meets_2 rfl (fun H locs hw => ?_)
  refine lv_if_eq (tgt := 24) hx hb dX4_meets_5 (by decide) (fun c2 => ?_) (fun c2 => ?_)
  · replace h := stT c2 h
    refine lv_iconst (v := -1) hx hb dX4_meets_24 (by decide) ?_
    obtain rfl := Option.some.inj h
    exact hE H locs _ ls hw dX4_meets_25
  · replace h := stF c2 h
    refine lv_aload_n hx hb dX4_meets_8 rfl (lv_at hl 0 rfl) ?_
    refine lv_iload_n hx hb dX4_meets_9 rfl (lv_at hl 2 rfl) ?_
    obtain ⟨z3, hz3, h⟩ := stB h
    refine ctV (av := [.int v2]) (st0 := ([] : List Value)) (st1 := ([.int z3] : List Value)) F hw hA (k_X4_isClass hz3) kl_4_103 kd_X4_isClass rfl ⟨by decide, by decide⟩ 21 rfl rfl hl.1 rfl (Nat.le_of_ble_eq_true rfl) dX4_meets_10 rfl (fun H locs hw => ?_)
    refine lv_if_eq (tgt := 24) hx hb dX4_meets_13 (by decide) (fun c4 => ?_) (fun c4 => ?_)
    · replace h := stT c4 h
      refine lv_iconst (v := -1) hx hb dX4_meets_24 (by decide) ?_
      obtain rfl := Option.some.inj h
      exact hE H locs _ ls hw dX4_meets_25
    · replace h := stF c4 h
      refine lv_aload_n hx hb dX4_meets_16 rfl (lv_at hl 0 rfl) ?_
      refine lv_iload_n hx hb dX4_meets_17 rfl (lv_at hl 3 rfl) ?_
      obtain ⟨z5, hz5, h⟩ := stB h
      refine ctV (av := [.int v3]) (st0 := ([] : List Value)) (st1 := ([.int z5] : List Value)) F hw hA (k_X4_isClass hz5) kl_4_103 kd_X4_isClass rfl ⟨by decide, by decide⟩ 21 rfl rfl hl.1 rfl (Nat.le_of_ble_eq_true rfl) dX4_meets_18 rfl (fun H locs hw => ?_)
      refine lv_if_ne (tgt := 26) hx hb dX4_meets_21 (by decide) (fun c6 => ?_) (fun c6 => ?_)
      · replace h := stF c6 h
        refine lv_aload_n hx hb dX4_meets_26 rfl (lv_at hl 0 rfl) ?_
        refine gf_4_14 F hw dX4_meets_27 ?_
        refine gf_4_109 F hw dX4_meets_30 ?_
        refine lv_iload_n hx hb dX4_meets_33 rfl (lv_at hl 1 rfl) ?_
        refine lv_iload_n hx hb dX4_meets_34 rfl (lv_at hl 2 rfl) ?_
        refine lv_iload_n hx hb dX4_meets_35 rfl (lv_at hl 3 rfl) ?_
        obtain ⟨z7, hz7, h⟩ := stB h
        refine ctS (av := [.int v1, .int v2, .int v3]) (st0 := ([.ref (q 5)] : List Value)) (st1 := ([.int z7, .ref (q 5)] : List Value)) F hw hA (k_X4_factorIndex hz7) kl_4_112 kd_X4_factorIndex rfl ⟨by decide, by decide⟩ hl.1 rfl (Nat.le_of_ble_eq_true rfl) dX4_meets_36 rfl (fun H locs hw => ?_)
        obtain ⟨g8, h⟩ := stG h
        refine al_c5 F hw g8 dX4_meets_39 ?_
        refine lv_istore (lv' := [(4, .int (aF z7.toNatClampNeg)), (0, .ref (q 21)), (1, .int v1), (2, .int v2), (3, .int v3)]) hx hb dX4_meets_40 hl (by decide) rfl (fun ls hl => ?_)
        refine lv_aload_n hx hb dX4_meets_42 rfl (lv_at hl 1 rfl) ?_
        refine gf_4_14 F hw dX4_meets_43 ?_
        refine lv_iload_n hx hb dX4_meets_46 rfl (lv_at hl 2 rfl) ?_
        obtain ⟨z9, hz9, h⟩ := stB h
        refine ctV (av := [.int v1]) (st0 := ([] : List Value)) (st1 := ([.int z9] : List Value)) F hw hA (k_X0_oppositeOf hz9) kl_4_116 kd_X0_oppositeOf rfl ⟨by decide, by decide⟩ 0 rfl rfl hl.1 rfl (Nat.le_of_ble_eq_true rfl) dX4_meets_47 rfl (fun H locs hw => ?_)
        refine lv_iload_n hx hb dX4_meets_50 rfl (lv_at hl 3 rfl) ?_
        refine lv_icmp_ne (tgt := 67) hx hb dX4_meets_51 (by decide) (fun c10 => ?_) (fun c10 => ?_)
        · replace h := stF c10 h
          refine lv_iload hx hb dX4_meets_67 (lv_at hl 0 rfl) ?_
          obtain rfl := Option.some.inj h
          exact hE H locs _ ls hw dX4_meets_69
        · replace h := stT c10 h
          refine lv_iload hx hb dX4_meets_54 (lv_at hl 0 rfl) ?_
          refine lv_aload_n hx hb dX4_meets_56 rfl (lv_at hl 1 rfl) ?_
          refine gf_4_14 F hw dX4_meets_57 ?_
          refine gf_4_78 F hw dX4_meets_60 ?_
          refine lv_iadd hx hb dX4_meets_63 ?_
          refine lv_goto (tgt := 69) hx hb dX4_meets_64 (by decide) ?_
          obtain rfl := Option.some.inj h
          exact hE H locs _ ls hw dX4_meets_69
      · replace h := stT c6 h
        refine lv_iconst (v := -1) hx hb dX4_meets_24 (by decide) ?_
        obtain rfl := Option.some.inj h
        exact hE H locs _ ls hw dX4_meets_25
end
theorem dX4_times_0 : decode cX4_times 0 = .ok (.aload_n 0, 1) := by decide +kernel
theorem dX4_times_1 : decode cX4_times 1 = .ok (.iload_n 1, 1) := by decide +kernel
theorem dX4_times_2 : decode cX4_times 2 = .ok (.invokevirtual 103, 3) := by decide +kernel
theorem dX4_times_5 : decode cX4_times 5 = .ok (.ifCond .eq 19, 3) := by decide +kernel
theorem dX4_times_8 : decode cX4_times 8 = .ok (.aload_n 0, 1) := by decide +kernel
theorem dX4_times_9 : decode cX4_times 9 = .ok (.iload_n 2, 1) := by decide +kernel
theorem dX4_times_10 : decode cX4_times 10 = .ok (.invokevirtual 103, 3) := by decide +kernel
theorem dX4_times_13 : decode cX4_times 13 = .ok (.ifCond .eq 11, 3) := by decide +kernel
theorem dX4_times_16 : decode cX4_times 16 = .ok (.aload_n 0, 1) := by decide +kernel
theorem dX4_times_17 : decode cX4_times 17 = .ok (.iload_n 3, 1) := by decide +kernel
theorem dX4_times_18 : decode cX4_times 18 = .ok (.invokevirtual 103, 3) := by decide +kernel
theorem dX4_times_21 : decode cX4_times 21 = .ok (.ifCond .ne 5, 3) := by decide +kernel
theorem dX4_times_24 : decode cX4_times 24 = .ok (.iconst (-1), 1) := by decide +kernel
theorem dX4_times_25 : decode cX4_times 25 = .ok (.ireturn, 1) := by decide +kernel
theorem dX4_times_26 : decode cX4_times 26 = .ok (.sipush 1000, 3) := by decide +kernel
theorem dX4_times_29 : decode cX4_times 29 = .ok (.aload_n 0, 1) := by decide +kernel
theorem dX4_times_30 : decode cX4_times 30 = .ok (.getfield 14, 3) := by decide +kernel
theorem dX4_times_33 : decode cX4_times 33 = .ok (.getfield 109, 3) := by decide +kernel
theorem dX4_times_36 : decode cX4_times 36 = .ok (.iload_n 1, 1) := by decide +kernel
theorem dX4_times_37 : decode cX4_times 37 = .ok (.iload_n 2, 1) := by decide +kernel
theorem dX4_times_38 : decode cX4_times 38 = .ok (.iload_n 3, 1) := by decide +kernel
theorem dX4_times_39 : decode cX4_times 39 = .ok (.invokestatic 112, 3) := by decide +kernel
theorem dX4_times_42 : decode cX4_times 42 = .ok (.iaload, 1) := by decide +kernel
theorem dX4_times_43 : decode cX4_times 43 = .ok (.iadd, 1) := by decide +kernel
theorem dX4_times_44 : decode cX4_times 44 = .ok (.ireturn, 1) := by decide +kernel
section
variable {p : Program} {l : Launch} {e : Env} {s : State} {m : MethodId} {args : Array Value} {below : List Frame} {meth : Method} {c : Code} {Q : State → Prop} {G : GG} {A : Nat → Prop} {q : Nat → Nat} {fr : va_W}
def f_X4_times (ze : Int32) (aF : Nat → Int32) (v1 : Int32) (v2 : Int32) (v3 : Int32) : Option (Int32) :=
  (f_X4_isClass ze v1).bind fun z1 =>
  if z1 = 0 then
  some (-1)
  else
  (f_X4_isClass ze v2).bind fun z3 =>
  if z3 = 0 then
  some (-1)
  else
  (f_X4_isClass ze v3).bind fun z5 =>
  if z5 = 0 then
  some (-1)
  else
  (f_X4_factorIndex v1 v2 v3).bind fun z7 =>
  if inb z7 1728 then
  some (1000 + (aF z7.toNatClampNeg))
  else none
set_option maxHeartbeats 4000000 in
set_option maxRecDepth 100000 in
theorem k_X4_times {l : Launch} {G : GG} {q : Nat → Nat} {fr : va_W}  {zp : Int32} {ze : Int32} {zf : Int32} {zg : Int32} {zn : Int32} {aG : Nat → Int32} {aW : Nat → Int32} {aR : Nat → Int32} {aN : Nat → Int32} {aF : Nat → Int32} {lC : Nat → Int64} {lS : Nat → Int64} {lP : Nat → Int64} {lX : Nat → Int64} {ztc : Int32} {aTs : Nat → Int32} {aTn : Nat → Int32} {zoc : Int32} {aOs : Nat → Int32} {aOn : Nat → Int32} {aTp : Nat → Int32} {zln : Int32} {zpl : Int32} {zfa : Int32} {aSz : Nat → Int32} {zit : Int32} {zip : Int32} {zic : Int32} {zig : Int32} {M : Nat → Nat → Int64} {v1 : Int32} {v2 : Int32} {v3 : Int32} {z : Int32}  (h : f_X4_times ze aF v1 v2 v3 = some z) : Ct l G yX4_times cX4_times 4 (some .int) 1 22 [.ref (q 21), .int v1, .int v2, .int v3] (kW G q zp ze zf zg zn aG aW aR aN aF lC lS lP lX ++ (oW G q ztc aTs aTn zoc aOs aOn aTp zln zpl zfa aSz zit zip zic zig M ++ fr)) (some (.int z)) (kW G q zp ze zf zg zn aG aW aR aN aF lC lS lP lX ++ (oW G q ztc aTs aTn zoc aOs aOn aTp zln zpl zfa aSz zit zip zic zig M ++ fr)) := by
  refine Ct.of (by decide +kernel) (Nat.le_of_ble_eq_true rfl) trivial ?_
  intro p e s m args below meth c Q A ls F hw hA hE hl
  have hx := F.x
  have hb := F.b
  unfold f_X4_times at h
  obtain ⟨H, hH⟩ : ∃ H, H = s.heap := ⟨_, rfl⟩
  obtain ⟨locs, hlo⟩ : ∃ locs : List Loc, locs = [] := ⟨_, rfl⟩
  rw [← hH, ← hlo] at hw ⊢
  have hl : lv_has ls 4 [(0, .ref (q 21)), (1, .int v1), (2, .int v2), (3, .int v3)] := hl
  refine lv_aload_n hx hb dX4_times_0 rfl (lv_at hl 0 rfl) ?_
  refine lv_iload_n hx hb dX4_times_1 rfl (lv_at hl 1 rfl) ?_
  obtain ⟨z1, hz1, h⟩ := stB h
  refine ctV (av := [.int v1]) (st0 := ([] : List Value)) (st1 := ([.int z1] : List Value)) F hw hA (k_X4_isClass hz1) kl_4_103 kd_X4_isClass rfl ⟨by decide, by decide⟩ 21 rfl rfl hl.1 rfl (Nat.le_of_ble_eq_true rfl) dX4_times_2 rfl (fun H locs hw => ?_)
  refine lv_if_eq (tgt := 24) hx hb dX4_times_5 (by decide) (fun c2 => ?_) (fun c2 => ?_)
  · replace h := stT c2 h
    refine lv_iconst (v := -1) hx hb dX4_times_24 (by decide) ?_
    obtain rfl := Option.some.inj h
    exact hE H locs _ ls hw dX4_times_25
  · replace h := stF c2 h
    refine lv_aload_n hx hb dX4_times_8 rfl (lv_at hl 0 rfl) ?_
    refine lv_iload_n hx hb dX4_times_9 rfl (lv_at hl 2 rfl) ?_
    obtain ⟨z3, hz3, h⟩ := stB h
    refine ctV (av := [.int v2]) (st0 := ([] : List Value)) (st1 := ([.int z3] : List Value)) F hw hA (k_X4_isClass hz3) kl_4_103 kd_X4_isClass rfl ⟨by decide, by decide⟩ 21 rfl rfl hl.1 rfl (Nat.le_of_ble_eq_true rfl) dX4_times_10 rfl (fun H locs hw => ?_)
    refine lv_if_eq (tgt := 24) hx hb dX4_times_13 (by decide) (fun c4 => ?_) (fun c4 => ?_)
    · replace h := stT c4 h
      refine lv_iconst (v := -1) hx hb dX4_times_24 (by decide) ?_
      obtain rfl := Option.some.inj h
      exact hE H locs _ ls hw dX4_times_25
    · replace h := stF c4 h
      refine lv_aload_n hx hb dX4_times_16 rfl (lv_at hl 0 rfl) ?_
      refine lv_iload_n hx hb dX4_times_17 rfl (lv_at hl 3 rfl) ?_
      obtain ⟨z5, hz5, h⟩ := stB h
      refine ctV (av := [.int v3]) (st0 := ([] : List Value)) (st1 := ([.int z5] : List Value)) F hw hA (k_X4_isClass hz5) kl_4_103 kd_X4_isClass rfl ⟨by decide, by decide⟩ 21 rfl rfl hl.1 rfl (Nat.le_of_ble_eq_true rfl) dX4_times_18 rfl (fun H locs hw => ?_)
      refine lv_if_ne (tgt := 26) hx hb dX4_times_21 (by decide) (fun c6 => ?_) (fun c6 => ?_)
      · replace h := stF c6 h
        refine lv_sipush (v := 1000) hx hb dX4_times_26 (by decide) ?_
        refine lv_aload_n hx hb dX4_times_29 rfl (lv_at hl 0 rfl) ?_
        refine gf_4_14 F hw dX4_times_30 ?_
        refine gf_4_109 F hw dX4_times_33 ?_
        refine lv_iload_n hx hb dX4_times_36 rfl (lv_at hl 1 rfl) ?_
        refine lv_iload_n hx hb dX4_times_37 rfl (lv_at hl 2 rfl) ?_
        refine lv_iload_n hx hb dX4_times_38 rfl (lv_at hl 3 rfl) ?_
        obtain ⟨z7, hz7, h⟩ := stB h
        refine ctS (av := [.int v1, .int v2, .int v3]) (st0 := ([.ref (q 5), .int 1000] : List Value)) (st1 := ([.int z7, .ref (q 5), .int 1000] : List Value)) F hw hA (k_X4_factorIndex hz7) kl_4_112 kd_X4_factorIndex rfl ⟨by decide, by decide⟩ hl.1 rfl (Nat.le_of_ble_eq_true rfl) dX4_times_39 rfl (fun H locs hw => ?_)
        obtain ⟨g8, h⟩ := stG h
        refine al_c5 F hw g8 dX4_times_42 ?_
        refine lv_iadd hx hb dX4_times_43 ?_
        obtain rfl := Option.some.inj h
        exact hE H locs _ ls hw dX4_times_44
      · replace h := stT c6 h
        refine lv_iconst (v := -1) hx hb dX4_times_24 (by decide) ?_
        obtain rfl := Option.some.inj h
        exact hE H locs _ ls hw dX4_times_25
end
theorem dX4_opposite_0 : decode cX4_opposite 0 = .ok (.aload_n 0, 1) := by decide +kernel
theorem dX4_opposite_1 : decode cX4_opposite 1 = .ok (.iload_n 1, 1) := by decide +kernel
theorem dX4_opposite_2 : decode cX4_opposite 2 = .ok (.invokevirtual 103, 3) := by decide +kernel
theorem dX4_opposite_5 : decode cX4_opposite 5 = .ok (.ifCond .ne 5, 3) := by decide +kernel
theorem dX4_opposite_8 : decode cX4_opposite 8 = .ok (.iconst (-1), 1) := by decide +kernel
theorem dX4_opposite_9 : decode cX4_opposite 9 = .ok (.ireturn, 1) := by decide +kernel
theorem dX4_opposite_10 : decode cX4_opposite 10 = .ok (.aload_n 0, 1) := by decide +kernel
theorem dX4_opposite_11 : decode cX4_opposite 11 = .ok (.getfield 14, 3) := by decide +kernel
theorem dX4_opposite_14 : decode cX4_opposite 14 = .ok (.iload_n 1, 1) := by decide +kernel
theorem dX4_opposite_15 : decode cX4_opposite 15 = .ok (.invokevirtual 116, 3) := by decide +kernel
theorem dX4_opposite_18 : decode cX4_opposite 18 = .ok (.ireturn, 1) := by decide +kernel
section
variable {p : Program} {l : Launch} {e : Env} {s : State} {m : MethodId} {args : Array Value} {below : List Frame} {meth : Method} {c : Code} {Q : State → Prop} {G : GG} {A : Nat → Prop} {q : Nat → Nat} {fr : va_W}
def f_X4_opposite (zp : Int32) (ze : Int32) (v1 : Int32) : Option (Int32) :=
  (f_X4_isClass ze v1).bind fun z1 =>
  if z1 = 0 then
  some (-1)
  else
  (f_X0_oppositeOf zp ze v1).bind fun z3 =>
  some z3
set_option maxHeartbeats 4000000 in
set_option maxRecDepth 100000 in
theorem k_X4_opposite {l : Launch} {G : GG} {q : Nat → Nat} {fr : va_W}  {zp : Int32} {ze : Int32} {zf : Int32} {zg : Int32} {zn : Int32} {aG : Nat → Int32} {aW : Nat → Int32} {aR : Nat → Int32} {aN : Nat → Int32} {aF : Nat → Int32} {lC : Nat → Int64} {lS : Nat → Int64} {lP : Nat → Int64} {lX : Nat → Int64} {ztc : Int32} {aTs : Nat → Int32} {aTn : Nat → Int32} {zoc : Int32} {aOs : Nat → Int32} {aOn : Nat → Int32} {aTp : Nat → Int32} {zln : Int32} {zpl : Int32} {zfa : Int32} {aSz : Nat → Int32} {zit : Int32} {zip : Int32} {zic : Int32} {zig : Int32} {M : Nat → Nat → Int64} {v1 : Int32} {z : Int32}  (h : f_X4_opposite zp ze v1 = some z) : Ct l G yX4_opposite cX4_opposite 2 (some .int) 1 21 [.ref (q 21), .int v1] (kW G q zp ze zf zg zn aG aW aR aN aF lC lS lP lX ++ (oW G q ztc aTs aTn zoc aOs aOn aTp zln zpl zfa aSz zit zip zic zig M ++ fr)) (some (.int z)) (kW G q zp ze zf zg zn aG aW aR aN aF lC lS lP lX ++ (oW G q ztc aTs aTn zoc aOs aOn aTp zln zpl zfa aSz zit zip zic zig M ++ fr)) := by
  refine Ct.of (by decide +kernel) (Nat.le_of_ble_eq_true rfl) trivial ?_
  intro p e s m args below meth c Q A ls F hw hA hE hl
  have hx := F.x
  have hb := F.b
  unfold f_X4_opposite at h
  obtain ⟨H, hH⟩ : ∃ H, H = s.heap := ⟨_, rfl⟩
  obtain ⟨locs, hlo⟩ : ∃ locs : List Loc, locs = [] := ⟨_, rfl⟩
  rw [← hH, ← hlo] at hw ⊢
  have hl : lv_has ls 2 [(0, .ref (q 21)), (1, .int v1)] := hl
  refine lv_aload_n hx hb dX4_opposite_0 rfl (lv_at hl 0 rfl) ?_
  refine lv_iload_n hx hb dX4_opposite_1 rfl (lv_at hl 1 rfl) ?_
  obtain ⟨z1, hz1, h⟩ := stB h
  refine ctV (av := [.int v1]) (st0 := ([] : List Value)) (st1 := ([.int z1] : List Value)) F hw hA (k_X4_isClass hz1) kl_4_103 kd_X4_isClass rfl ⟨by decide, by decide⟩ 21 rfl rfl hl.1 rfl (Nat.le_of_ble_eq_true rfl) dX4_opposite_2 rfl (fun H locs hw => ?_)
  refine lv_if_ne (tgt := 10) hx hb dX4_opposite_5 (by decide) (fun c2 => ?_) (fun c2 => ?_)
  · replace h := stF c2 h
    refine lv_aload_n hx hb dX4_opposite_10 rfl (lv_at hl 0 rfl) ?_
    refine gf_4_14 F hw dX4_opposite_11 ?_
    refine lv_iload_n hx hb dX4_opposite_14 rfl (lv_at hl 1 rfl) ?_
    obtain ⟨z3, hz3, h⟩ := stB h
    refine ctV (av := [.int v1]) (st0 := ([] : List Value)) (st1 := ([.int z3] : List Value)) F hw hA (k_X0_oppositeOf hz3) kl_4_116 kd_X0_oppositeOf rfl ⟨by decide, by decide⟩ 0 rfl rfl hl.1 rfl (Nat.le_of_ble_eq_true rfl) dX4_opposite_15 rfl (fun H locs hw => ?_)
    obtain rfl := Option.some.inj h
    exact hE H locs _ ls hw dX4_opposite_18
  · replace h := stT c2 h
    refine lv_iconst (v := -1) hx hb dX4_opposite_8 (by decide) ?_
    obtain rfl := Option.some.inj h
    exact hE H locs _ ls hw dX4_opposite_9
end
theorem dX4_around_0 : decode cX4_around 0 = .ok (.aload_n 0, 1) := by decide +kernel
theorem dX4_around_1 : decode cX4_around 1 = .ok (.iload_n 1, 1) := by decide +kernel
theorem dX4_around_2 : decode cX4_around 2 = .ok (.invokevirtual 103, 3) := by decide +kernel
theorem dX4_around_5 : decode cX4_around 5 = .ok (.ifCond .eq 12, 3) := by decide +kernel
theorem dX4_around_8 : decode cX4_around 8 = .ok (.iload_n 2, 1) := by decide +kernel
theorem dX4_around_9 : decode cX4_around 9 = .ok (.ifCond .lt 8, 3) := by decide +kernel
theorem dX4_around_12 : decode cX4_around 12 = .ok (.iload_n 2, 1) := by decide +kernel
theorem dX4_around_13 : decode cX4_around 13 = .ok (.iconst 1, 1) := by decide +kernel
theorem dX4_around_14 : decode cX4_around 14 = .ok (.if_icmp .le 5, 3) := by decide +kernel
theorem dX4_around_17 : decode cX4_around 17 = .ok (.iconst (-1), 1) := by decide +kernel
theorem dX4_around_18 : decode cX4_around 18 = .ok (.ireturn, 1) := by decide +kernel
theorem dX4_around_19 : decode cX4_around 19 = .ok (.iconst 0, 1) := by decide +kernel
theorem dX4_around_20 : decode cX4_around 20 = .ok (.istore_n 3, 1) := by decide +kernel
theorem dX4_around_21 : decode cX4_around 21 = .ok (.iconst 0, 1) := by decide +kernel
theorem dX4_around_22 : decode cX4_around 22 = .ok (.istore 4, 2) := by decide +kernel
theorem dX4_around_24 : decode cX4_around 24 = .ok (.iload 4, 2) := by decide +kernel
theorem dX4_around_26 : decode cX4_around 26 = .ok (.aload_n 0, 1) := by decide +kernel
theorem dX4_around_27 : decode cX4_around 27 = .ok (.getfield 14, 3) := by decide +kernel
theorem dX4_around_30 : decode cX4_around 30 = .ok (.getfield 75, 3) := by decide +kernel
theorem dX4_around_33 : decode cX4_around 33 = .ok (.if_icmp .ge 41, 3) := by decide +kernel
theorem dX4_around_36 : decode cX4_around 36 = .ok (.iload_n 3, 1) := by decide +kernel
theorem dX4_around_37 : decode cX4_around 37 = .ok (.aload_n 0, 1) := by decide +kernel
theorem dX4_around_38 : decode cX4_around 38 = .ok (.getfield 14, 3) := by decide +kernel
theorem dX4_around_41 : decode cX4_around 41 = .ok (.getfield 106, 3) := by decide +kernel
theorem dX4_around_44 : decode cX4_around 44 = .ok (.iload_n 2, 1) := by decide +kernel
theorem dX4_around_45 : decode cX4_around 45 = .ok (.ifCond .ne 13, 3) := by decide +kernel
theorem dX4_around_48 : decode cX4_around 48 = .ok (.iload_n 1, 1) := by decide +kernel
theorem dX4_around_49 : decode cX4_around 49 = .ok (.bipush 12, 2) := by decide +kernel
theorem dX4_around_51 : decode cX4_around 51 = .ok (.imul, 1) := by decide +kernel
theorem dX4_around_52 : decode cX4_around 52 = .ok (.iload 4, 2) := by decide +kernel
theorem dX4_around_54 : decode cX4_around 54 = .ok (.iadd, 1) := by decide +kernel
theorem dX4_around_55 : decode cX4_around 55 = .ok (.goto 10, 3) := by decide +kernel
theorem dX4_around_58 : decode cX4_around 58 = .ok (.iload 4, 2) := by decide +kernel
theorem dX4_around_60 : decode cX4_around 60 = .ok (.bipush 12, 2) := by decide +kernel
theorem dX4_around_62 : decode cX4_around 62 = .ok (.imul, 1) := by decide +kernel
theorem dX4_around_63 : decode cX4_around 63 = .ok (.iload_n 1, 1) := by decide +kernel
theorem dX4_around_64 : decode cX4_around 64 = .ok (.iadd, 1) := by decide +kernel
theorem dX4_around_65 : decode cX4_around 65 = .ok (.iaload, 1) := by decide +kernel
theorem dX4_around_66 : decode cX4_around 66 = .ok (.iadd, 1) := by decide +kernel
theorem dX4_around_67 : decode cX4_around 67 = .ok (.istore_n 3, 1) := by decide +kernel
theorem dX4_around_68 : decode cX4_around 68 = .ok (.iinc 4 1, 3) := by decide +kernel
theorem dX4_around_71 : decode cX4_around 71 = .ok (.goto (-47), 3) := by decide +kernel
theorem dX4_around_74 : decode cX4_around 74 = .ok (.iload_n 3, 1) := by decide +kernel
theorem dX4_around_75 : decode cX4_around 75 = .ok (.ireturn, 1) := by decide +kernel
section
variable {p : Program} {l : Launch} {e : Env} {s : State} {m : MethodId} {args : Array Value} {below : List Frame} {meth : Method} {c : Code} {Q : State → Prop} {G : GG} {A : Nat → Prop} {q : Nat → Nat} {fr : va_W}
def f_X4_around_L24 (ze : Int32) (aN : Nat → Int32) (v1 : Int32) (v2 : Int32) : Nat → Int32 → Int32 → Option (Int32)
  | 0, _, _ => none
  | fu + 1, v3, v4 =>
    if ze ≤ v4 then
    some v3
    else
    if v2 = 0 then
    if inb ((v1 * 12) + v4) 144 then
    f_X4_around_L24 ze aN v1 v2 fu (v3 + (aN ((v1 * 12) + v4).toNatClampNeg)) (v4 + 1)
    else none
    else
    if inb ((v4 * 12) + v1) 144 then
    f_X4_around_L24 ze aN v1 v2 fu (v3 + (aN ((v4 * 12) + v1).toNatClampNeg)) (v4 + 1)
    else none
set_option maxHeartbeats 4000000 in
set_option maxRecDepth 100000 in
theorem w_X4_around_L24  {zp : Int32} {ze : Int32} {zf : Int32} {zg : Int32} {zn : Int32} {aG : Nat → Int32} {aW : Nat → Int32} {aR : Nat → Int32} {aN : Nat → Int32} {aF : Nat → Int32} {lC : Nat → Int64} {lS : Nat → Int64} {lP : Nat → Int64} {lX : Nat → Int64} {ztc : Int32} {aTs : Nat → Int32} {aTn : Nat → Int32} {zoc : Int32} {aOs : Nat → Int32} {aOn : Nat → Int32} {aTp : Nat → Int32} {zln : Int32} {zpl : Int32} {zfa : Int32} {aSz : Nat → Int32} {zit : Int32} {zip : Int32} {zic : Int32} {zig : Int32} {M : Nat → Nat → Int64} {v1 : Int32} {v2 : Int32}  (F : Fx p s m args meth c cX4_around 5 RX4 (some .int)) (hA : ∀ q, s.heap.size ≤ q → A q)   : ∀ (fu : Nat) (v3 : Int32) (v4 : Int32) (z : Int32), f_X4_around_L24 ze aN v1 v2 fu v3 v4 = some z → Ends p l e (rmOf 1 21) s m args below meth c Q cX4_around G A (some .int) (some (.int z)) (kW G q zp ze zf zg zn aG aW aR aN aF lC lS lP lX ++ (oW G q ztc aTs aTn zoc aOs aOn aTp zln zpl zfa aSz zit zip zic zig M ++ fr)) → ∀ (H : Heap) (locs : List Loc) (ls : Array Slot), Wd G s A (kW G q zp ze zf zg zn aG aW aR aN aF lC lS lP lX ++ (oW G q ztc aTs aTn zoc aOs aOn aTp zln zpl zfa aSz zit zip zic zig M ++ fr)) H locs → lv_has ls 5 [(0, .ref (q 21)), (1, .int v1), (2, .int v2), (3, .int v3), (4, .int v4)] → W p l e (rmOf 1 21) s m args below meth c H locs 0 0 Q (F0 m 24 ls []) := by
  have hx := F.x
  have hb := F.b
  intro fu
  induction fu with
  | zero =>
    intro v3 v4 z h
    cases (h : none = some z)
  | succ fu ih =>
    intro v3 v4 z h hE H locs ls hw hl
    rw [f_X4_around_L24] at h
    refine lv_iload hx hb dX4_around_24 (lv_at hl 4 rfl) ?_
    refine lv_aload_n hx hb dX4_around_26 rfl (lv_at hl 0 rfl) ?_
    refine gf_4_14 F hw dX4_around_27 ?_
    refine gf_4_75 F hw dX4_around_30 ?_
    refine lv_icmp_ge (tgt := 74) hx hb dX4_around_33 (by decide) (fun c1 => ?_) (fun c1 => ?_)
    · replace h := stT c1 h
      refine lv_iload_n hx hb dX4_around_74 rfl (lv_at hl 3 rfl) ?_
      obtain rfl := Option.some.inj h
      exact hE H locs _ ls hw dX4_around_75
    · replace h := stF c1 h
      refine lv_iload_n hx hb dX4_around_36 rfl (lv_at hl 3 rfl) ?_
      refine lv_aload_n hx hb dX4_around_37 rfl (lv_at hl 0 rfl) ?_
      refine gf_4_14 F hw dX4_around_38 ?_
      refine gf_4_106 F hw dX4_around_41 ?_
      refine lv_iload_n hx hb dX4_around_44 rfl (lv_at hl 2 rfl) ?_
      refine lv_if_ne (tgt := 58) hx hb dX4_around_45 (by decide) (fun c2 => ?_) (fun c2 => ?_)
      · replace h := stF c2 h
        refine lv_iload hx hb dX4_around_58 (lv_at hl 4 rfl) ?_
        refine lv_bipush (v := 12) hx hb dX4_around_60 (by decide) ?_
        refine lv_imul hx hb dX4_around_62 ?_
        refine lv_iload_n hx hb dX4_around_63 rfl (lv_at hl 1 rfl) ?_
        refine lv_iadd hx hb dX4_around_64 ?_
        obtain ⟨g3, h⟩ := stG h
        refine al_c4 F hw g3 dX4_around_65 ?_
        refine lv_iadd hx hb dX4_around_66 ?_
        refine lv_istore_n (lv' := [(3, .int (v3 + (aN ((v4 * 12) + v1).toNatClampNeg))), (0, .ref (q 21)), (1, .int v1), (2, .int v2), (4, .int v4)]) hx hb dX4_around_67 rfl hl (by decide) rfl (fun ls hl => ?_)
        refine lv_iinc (v := (v4 + 1)) (lv' := [(4, .int (v4 + 1)), (3, .int (v3 + (aN ((v4 * 12) + v1).toNatClampNeg))), (0, .ref (q 21)), (1, .int v1), (2, .int v2)]) hx hb dX4_around_68 hl (k := 4) rfl rfl (by decide) rfl (fun ls hl => ?_)
        refine lv_goto (tgt := 24) hx hb dX4_around_71 (by decide) ?_
        exact ih _ _ z h hE H locs ls hw (lv_sub hl [2, 3, 4, 1, 0] rfl)
      · replace h := stT c2 h
        refine lv_iload_n hx hb dX4_around_48 rfl (lv_at hl 1 rfl) ?_
        refine lv_bipush (v := 12) hx hb dX4_around_49 (by decide) ?_
        refine lv_imul hx hb dX4_around_51 ?_
        refine lv_iload hx hb dX4_around_52 (lv_at hl 4 rfl) ?_
        refine lv_iadd hx hb dX4_around_54 ?_
        refine lv_goto (tgt := 65) hx hb dX4_around_55 (by decide) ?_
        obtain ⟨g4, h⟩ := stG h
        refine al_c4 F hw g4 dX4_around_65 ?_
        refine lv_iadd hx hb dX4_around_66 ?_
        refine lv_istore_n (lv' := [(3, .int (v3 + (aN ((v1 * 12) + v4).toNatClampNeg))), (0, .ref (q 21)), (1, .int v1), (2, .int v2), (4, .int v4)]) hx hb dX4_around_67 rfl hl (by decide) rfl (fun ls hl => ?_)
        refine lv_iinc (v := (v4 + 1)) (lv' := [(4, .int (v4 + 1)), (3, .int (v3 + (aN ((v1 * 12) + v4).toNatClampNeg))), (0, .ref (q 21)), (1, .int v1), (2, .int v2)]) hx hb dX4_around_68 hl (k := 4) rfl rfl (by decide) rfl (fun ls hl => ?_)
        refine lv_goto (tgt := 24) hx hb dX4_around_71 (by decide) ?_
        exact ih _ _ z h hE H locs ls hw (lv_sub hl [2, 3, 4, 1, 0] rfl)
def f_X4_around (ze : Int32) (aN : Nat → Int32) (v1 : Int32) (v2 : Int32) : Option (Int32) :=
  (f_X4_isClass ze v1).bind fun z1 =>
  if z1 = 0 then
  some (-1)
  else
  if v2 < 0 then
  some (-1)
  else
  if v2 ≤ 1 then
  f_X4_around_L24 ze aN v1 v2 FU 0 0
  else
  some (-1)
set_option maxHeartbeats 4000000 in
set_option maxRecDepth 100000 in
theorem k_X4_around {l : Launch} {G : GG} {q : Nat → Nat} {fr : va_W}  {zp : Int32} {ze : Int32} {zf : Int32} {zg : Int32} {zn : Int32} {aG : Nat → Int32} {aW : Nat → Int32} {aR : Nat → Int32} {aN : Nat → Int32} {aF : Nat → Int32} {lC : Nat → Int64} {lS : Nat → Int64} {lP : Nat → Int64} {lX : Nat → Int64} {ztc : Int32} {aTs : Nat → Int32} {aTn : Nat → Int32} {zoc : Int32} {aOs : Nat → Int32} {aOn : Nat → Int32} {aTp : Nat → Int32} {zln : Int32} {zpl : Int32} {zfa : Int32} {aSz : Nat → Int32} {zit : Int32} {zip : Int32} {zic : Int32} {zig : Int32} {M : Nat → Nat → Int64} {v1 : Int32} {v2 : Int32} {z : Int32}  (h : f_X4_around ze aN v1 v2 = some z) : Ct l G yX4_around cX4_around 5 (some .int) 1 21 [.ref (q 21), .int v1, .int v2] (kW G q zp ze zf zg zn aG aW aR aN aF lC lS lP lX ++ (oW G q ztc aTs aTn zoc aOs aOn aTp zln zpl zfa aSz zit zip zic zig M ++ fr)) (some (.int z)) (kW G q zp ze zf zg zn aG aW aR aN aF lC lS lP lX ++ (oW G q ztc aTs aTn zoc aOs aOn aTp zln zpl zfa aSz zit zip zic zig M ++ fr)) := by
  refine Ct.of (by decide +kernel) (Nat.le_of_ble_eq_true rfl) trivial ?_
  intro p e s m args below meth c Q A ls F hw hA hE hl
  have hx := F.x
  have hb := F.b
  unfold f_X4_around at h
  obtain ⟨H, hH⟩ : ∃ H, H = s.heap := ⟨_, rfl⟩
  obtain ⟨locs, hlo⟩ : ∃ locs : List Loc, locs = [] := ⟨_, rfl⟩
  rw [← hH, ← hlo] at hw ⊢
  have hl : lv_has ls 5 [(0, .ref (q 21)), (1, .int v1), (2, .int v2)] := hl
  refine lv_aload_n hx hb dX4_around_0 rfl (lv_at hl 0 rfl) ?_
  refine lv_iload_n hx hb dX4_around_1 rfl (lv_at hl 1 rfl) ?_
  obtain ⟨z1, hz1, h⟩ := stB h
  refine ctV (av := [.int v1]) (st0 := ([] : List Value)) (st1 := ([.int z1] : List Value)) F hw hA (k_X4_isClass hz1) kl_4_103 kd_X4_isClass rfl ⟨by decide, by decide⟩ 21 rfl rfl hl.1 rfl (Nat.le_of_ble_eq_true rfl) dX4_around_2 rfl (fun H locs hw => ?_)
  refine lv_if_eq (tgt := 17) hx hb dX4_around_5 (by decide) (fun c2 => ?_) (fun c2 => ?_)
  · replace h := stT c2 h
    refine lv_iconst (v := -1) hx hb dX4_around_17 (by decide) ?_
    obtain rfl := Option.some.inj h
    exact hE H locs _ ls hw dX4_around_18
  · replace h := stF c2 h
    refine lv_iload_n hx hb dX4_around_8 rfl (lv_at hl 2 rfl) ?_
    refine lv_if_lt (tgt := 17) hx hb dX4_around_9 (by decide) (fun c3 => ?_) (fun c3 => ?_)
    · replace h := stT c3 h
      refine lv_iconst (v := -1) hx hb dX4_around_17 (by decide) ?_
      obtain rfl := Option.some.inj h
      exact hE H locs _ ls hw dX4_around_18
    · replace h := stF c3 h
      refine lv_iload_n hx hb dX4_around_12 rfl (lv_at hl 2 rfl) ?_
      refine lv_iconst (v := 1) hx hb dX4_around_13 (by decide) ?_
      refine lv_icmp_le (tgt := 19) hx hb dX4_around_14 (by decide) (fun c4 => ?_) (fun c4 => ?_)
      · replace h := stT c4 h
        refine lv_iconst (v := 0) hx hb dX4_around_19 (by decide) ?_
        refine lv_istore_n (lv' := [(3, .int 0), (0, .ref (q 21)), (1, .int v1), (2, .int v2)]) hx hb dX4_around_20 rfl hl (by decide) rfl (fun ls hl => ?_)
        refine lv_iconst (v := 0) hx hb dX4_around_21 (by decide) ?_
        refine lv_istore (lv' := [(4, .int 0), (3, .int 0), (0, .ref (q 21)), (1, .int v1), (2, .int v2)]) hx hb dX4_around_22 hl (by decide) rfl (fun ls hl => ?_)
        exact w_X4_around_L24 F hA  FU _ _ z h hE H locs ls hw (lv_sub hl [2, 3, 4, 1, 0] rfl)
      · replace h := stF c4 h
        refine lv_iconst (v := -1) hx hb dX4_around_17 (by decide) ?_
        obtain rfl := Option.some.inj h
        exact hE H locs _ ls hw dX4_around_18
end
theorem dX4_solved_0 : decode cX4_solved 0 = .ok (.aload_n 0, 1) := by decide +kernel
theorem dX4_solved_1 : decode cX4_solved 1 = .ok (.iload_n 1, 1) := by decide +kernel
theorem dX4_solved_2 : decode cX4_solved 2 = .ok (.invokevirtual 120, 3) := by decide +kernel
theorem dX4_solved_5 : decode cX4_solved 5 = .ok (.ifCond .eq 19, 3) := by decide +kernel
theorem dX4_solved_8 : decode cX4_solved 8 = .ok (.aload_n 0, 1) := by decide +kernel
theorem dX4_solved_9 : decode cX4_solved 9 = .ok (.iload_n 2, 1) := by decide +kernel
theorem dX4_solved_10 : decode cX4_solved 10 = .ok (.invokevirtual 120, 3) := by decide +kernel
theorem dX4_solved_13 : decode cX4_solved 13 = .ok (.ifCond .eq 11, 3) := by decide +kernel
theorem dX4_solved_16 : decode cX4_solved 16 = .ok (.aload_n 0, 1) := by decide +kernel
theorem dX4_solved_17 : decode cX4_solved 17 = .ok (.iload_n 3, 1) := by decide +kernel
theorem dX4_solved_18 : decode cX4_solved 18 = .ok (.invokevirtual 120, 3) := by decide +kernel
theorem dX4_solved_21 : decode cX4_solved 21 = .ok (.ifCond .ne 5, 3) := by decide +kernel
theorem dX4_solved_24 : decode cX4_solved 24 = .ok (.iconst (-1), 1) := by decide +kernel
theorem dX4_solved_25 : decode cX4_solved 25 = .ok (.ireturn, 1) := by decide +kernel
theorem dX4_solved_26 : decode cX4_solved 26 = .ok (.aload_n 0, 1) := by decide +kernel
theorem dX4_solved_27 : decode cX4_solved 27 = .ok (.getfield 14, 3) := by decide +kernel
theorem dX4_solved_30 : decode cX4_solved 30 = .ok (.getfield 64, 3) := by decide +kernel
theorem dX4_solved_33 : decode cX4_solved 33 = .ok (.istore 4, 2) := by decide +kernel
theorem dX4_solved_35 : decode cX4_solved 35 = .ok (.iconst 0, 1) := by decide +kernel
theorem dX4_solved_36 : decode cX4_solved 36 = .ok (.istore 5, 2) := by decide +kernel
theorem dX4_solved_38 : decode cX4_solved 38 = .ok (.iconst 0, 1) := by decide +kernel
theorem dX4_solved_39 : decode cX4_solved 39 = .ok (.istore 6, 2) := by decide +kernel
theorem dX4_solved_41 : decode cX4_solved 41 = .ok (.iload 6, 2) := by decide +kernel
theorem dX4_solved_43 : decode cX4_solved 43 = .ok (.iload 4, 2) := by decide +kernel
theorem dX4_solved_45 : decode cX4_solved 45 = .ok (.if_icmp .ge 60, 3) := by decide +kernel
theorem dX4_solved_48 : decode cX4_solved 48 = .ok (.iconst 0, 1) := by decide +kernel
theorem dX4_solved_49 : decode cX4_solved 49 = .ok (.istore 7, 2) := by decide +kernel
theorem dX4_solved_51 : decode cX4_solved 51 = .ok (.iload 7, 2) := by decide +kernel
theorem dX4_solved_53 : decode cX4_solved 53 = .ok (.iload 4, 2) := by decide +kernel
theorem dX4_solved_55 : decode cX4_solved 55 = .ok (.if_icmp .ge 44, 3) := by decide +kernel
theorem dX4_solved_58 : decode cX4_solved 58 = .ok (.iload_n 1, 1) := by decide +kernel
theorem dX4_solved_59 : decode cX4_solved 59 = .ok (.aload_n 0, 1) := by decide +kernel
theorem dX4_solved_60 : decode cX4_solved 60 = .ok (.getfield 14, 3) := by decide +kernel
theorem dX4_solved_63 : decode cX4_solved 63 = .ok (.getfield 123, 3) := by decide +kernel
theorem dX4_solved_66 : decode cX4_solved 66 = .ok (.iload 6, 2) := by decide +kernel
theorem dX4_solved_68 : decode cX4_solved 68 = .ok (.iaload, 1) := by decide +kernel
theorem dX4_solved_69 : decode cX4_solved 69 = .ok (.imul, 1) := by decide +kernel
theorem dX4_solved_70 : decode cX4_solved 70 = .ok (.iload_n 2, 1) := by decide +kernel
theorem dX4_solved_71 : decode cX4_solved 71 = .ok (.aload_n 0, 1) := by decide +kernel
theorem dX4_solved_72 : decode cX4_solved 72 = .ok (.getfield 14, 3) := by decide +kernel
theorem dX4_solved_75 : decode cX4_solved 75 = .ok (.getfield 123, 3) := by decide +kernel
theorem dX4_solved_78 : decode cX4_solved 78 = .ok (.iload 7, 2) := by decide +kernel
theorem dX4_solved_80 : decode cX4_solved 80 = .ok (.iaload, 1) := by decide +kernel
theorem dX4_solved_81 : decode cX4_solved 81 = .ok (.imul, 1) := by decide +kernel
theorem dX4_solved_82 : decode cX4_solved 82 = .ok (.iadd, 1) := by decide +kernel
theorem dX4_solved_83 : decode cX4_solved 83 = .ok (.iload 4, 2) := by decide +kernel
theorem dX4_solved_85 : decode cX4_solved 85 = .ok (.irem, 1) := by decide +kernel
theorem dX4_solved_86 : decode cX4_solved 86 = .ok (.iload_n 3, 1) := by decide +kernel
theorem dX4_solved_87 : decode cX4_solved 87 = .ok (.if_icmp .ne 6, 3) := by decide +kernel
theorem dX4_solved_90 : decode cX4_solved 90 = .ok (.iinc 5 1, 3) := by decide +kernel
theorem dX4_solved_93 : decode cX4_solved 93 = .ok (.iinc 7 1, 3) := by decide +kernel
theorem dX4_solved_96 : decode cX4_solved 96 = .ok (.goto (-45), 3) := by decide +kernel
theorem dX4_solved_99 : decode cX4_solved 99 = .ok (.iinc 6 1, 3) := by decide +kernel
theorem dX4_solved_102 : decode cX4_solved 102 = .ok (.goto (-61), 3) := by decide +kernel
theorem dX4_solved_105 : decode cX4_solved 105 = .ok (.iload 5, 2) := by decide +kernel
theorem dX4_solved_107 : decode cX4_solved 107 = .ok (.ireturn, 1) := by decide +kernel
section
variable {p : Program} {l : Launch} {e : Env} {s : State} {m : MethodId} {args : Array Value} {below : List Frame} {meth : Method} {c : Code} {Q : State → Prop} {G : GG} {A : Nat → Prop} {q : Nat → Nat} {fr : va_W}
def f_X4_solved_L51 (zp : Int32) (aR : Nat → Int32) (v1 : Int32) (v2 : Int32) (v3 : Int32) (KK : Int32 → Int32 → Int32 → Option (Int32)) : Nat → Int32 → Int32 → Int32 → Int32 → Option (Int32)
  | 0, _, _, _, _ => none
  | fu + 1, v4, v5, v6, v7 =>
    if v4 ≤ v7 then
    KK v4 v5 (v6 + 1)
    else
    if inb v6 61 then
    if inb v7 61 then
    if v4 = 0 then none else
    if (((v1 * (aR v6.toNatClampNeg)) + (v2 * (aR v7.toNatClampNeg))) - ((v1 * (aR v6.toNatClampNeg)) + (v2 * (aR v7.toNatClampNeg))) / v4 * v4) = v3 then
    f_X4_solved_L51 zp aR v1 v2 v3 KK fu v4 (v5 + 1) v6 (v7 + 1)
    else
    f_X4_solved_L51 zp aR v1 v2 v3 KK fu v4 v5 v6 (v7 + 1)
    else none
    else none
set_option maxHeartbeats 4000000 in
set_option maxRecDepth 100000 in
theorem w_X4_solved_L51  {zp : Int32} {ze : Int32} {zf : Int32} {zg : Int32} {zn : Int32} {aG : Nat → Int32} {aW : Nat → Int32} {aR : Nat → Int32} {aN : Nat → Int32} {aF : Nat → Int32} {lC : Nat → Int64} {lS : Nat → Int64} {lP : Nat → Int64} {lX : Nat → Int64} {ztc : Int32} {aTs : Nat → Int32} {aTn : Nat → Int32} {zoc : Int32} {aOs : Nat → Int32} {aOn : Nat → Int32} {aTp : Nat → Int32} {zln : Int32} {zpl : Int32} {zfa : Int32} {aSz : Nat → Int32} {zit : Int32} {zip : Int32} {zic : Int32} {zig : Int32} {M : Nat → Nat → Int64} {v1 : Int32} {v2 : Int32} {v3 : Int32} {KK : Int32 → Int32 → Int32 → Option (Int32)} (F : Fx p s m args meth c cX4_solved 8 RX4 (some .int)) (hA : ∀ q, s.heap.size ≤ q → A q)  (hK : ∀ (v4 : Int32) (v5 : Int32) (v6 : Int32) (z : Int32), KK v4 v5 v6 = some z → Ends p l e (rmOf 1 21) s m args below meth c Q cX4_solved G A (some .int) (some (.int z)) (kW G q zp ze zf zg zn aG aW aR aN aF lC lS lP lX ++ (oW G q ztc aTs aTn zoc aOs aOn aTp zln zpl zfa aSz zit zip zic zig M ++ fr)) → ∀ (H : Heap) (locs : List Loc) (ls : Array Slot), Wd G s A (kW G q zp ze zf zg zn aG aW aR aN aF lC lS lP lX ++ (oW G q ztc aTs aTn zoc aOs aOn aTp zln zpl zfa aSz zit zip zic zig M ++ fr)) H locs → lv_has ls 8 [(0, .ref (q 21)), (1, .int v1), (2, .int v2), (3, .int v3), (4, .int v4), (5, .int v5), (6, .int v6)] → W p l e (rmOf 1 21) s m args below meth c H locs 0 0 Q (F0 m 41 ls [])) : ∀ (fu : Nat) (v4 : Int32) (v5 : Int32) (v6 : Int32) (v7 : Int32) (z : Int32), f_X4_solved_L51 zp aR v1 v2 v3 KK fu v4 v5 v6 v7 = some z → Ends p l e (rmOf 1 21) s m args below meth c Q cX4_solved G A (some .int) (some (.int z)) (kW G q zp ze zf zg zn aG aW aR aN aF lC lS lP lX ++ (oW G q ztc aTs aTn zoc aOs aOn aTp zln zpl zfa aSz zit zip zic zig M ++ fr)) → ∀ (H : Heap) (locs : List Loc) (ls : Array Slot), Wd G s A (kW G q zp ze zf zg zn aG aW aR aN aF lC lS lP lX ++ (oW G q ztc aTs aTn zoc aOs aOn aTp zln zpl zfa aSz zit zip zic zig M ++ fr)) H locs → lv_has ls 8 [(0, .ref (q 21)), (1, .int v1), (2, .int v2), (3, .int v3), (4, .int v4), (5, .int v5), (6, .int v6), (7, .int v7)] → W p l e (rmOf 1 21) s m args below meth c H locs 0 0 Q (F0 m 51 ls []) := by
  have hx := F.x
  have hb := F.b
  intro fu
  induction fu with
  | zero =>
    intro v4 v5 v6 v7 z h
    cases (h : none = some z)
  | succ fu ih =>
    intro v4 v5 v6 v7 z h hE H locs ls hw hl
    rw [f_X4_solved_L51] at h
    refine lv_iload hx hb dX4_solved_51 (lv_at hl 7 rfl) ?_
    refine lv_iload hx hb dX4_solved_53 (lv_at hl 4 rfl) ?_
    refine lv_icmp_ge (tgt := 99) hx hb dX4_solved_55 (by decide) (fun c1 => ?_) (fun c1 => ?_)
    · replace h := stT c1 h
      refine lv_iinc (v := (v6 + 1)) (lv' := [(6, .int (v6 + 1)), (0, .ref (q 21)), (1, .int v1), (2, .int v2), (3, .int v3), (4, .int v4), (5, .int v5), (7, .int v7)]) hx hb dX4_solved_99 hl (k := 6) rfl rfl (by decide) rfl (fun ls hl => ?_)
      refine lv_goto (tgt := 41) hx hb dX4_solved_102 (by decide) ?_
      exact hK _ _ _ z h hE H locs ls hw (lv_sub hl [1, 2, 3, 4, 5, 6, 0] rfl)
    · replace h := stF c1 h
      refine lv_iload_n hx hb dX4_solved_58 rfl (lv_at hl 1 rfl) ?_
      refine lv_aload_n hx hb dX4_solved_59 rfl (lv_at hl 0 rfl) ?_
      refine gf_4_14 F hw dX4_solved_60 ?_
      refine gf_4_123 F hw dX4_solved_63 ?_
      refine lv_iload hx hb dX4_solved_66 (lv_at hl 6 rfl) ?_
      obtain ⟨g2, h⟩ := stG h
      refine al_c3 F hw g2 dX4_solved_68 ?_
      refine lv_imul hx hb dX4_solved_69 ?_
      refine lv_iload_n hx hb dX4_solved_70 rfl (lv_at hl 2 rfl) ?_
      refine lv_aload_n hx hb dX4_solved_71 rfl (lv_at hl 0 rfl) ?_
      refine gf_4_14 F hw dX4_solved_72 ?_
      refine gf_4_123 F hw dX4_solved_75 ?_
      refine lv_iload hx hb dX4_solved_78 (lv_at hl 7 rfl) ?_
      obtain ⟨g3, h⟩ := stG h
      refine al_c3 F hw g3 dX4_solved_80 ?_
      refine lv_imul hx hb dX4_solved_81 ?_
      refine lv_iadd hx hb dX4_solved_82 ?_
      refine lv_iload hx hb dX4_solved_83 (lv_at hl 4 rfl) ?_
      obtain ⟨g4, h⟩ := stD h
      refine lv_irem hx hb dX4_solved_85 g4 ?_
      refine lv_iload_n hx hb dX4_solved_86 rfl (lv_at hl 3 rfl) ?_
      refine lv_icmp_ne (tgt := 93) hx hb dX4_solved_87 (by decide) (fun c5 => ?_) (fun c5 => ?_)
      · replace h := stF c5 h
        refine lv_iinc (v := (v7 + 1)) (lv' := [(7, .int (v7 + 1)), (0, .ref (q 21)), (1, .int v1), (2, .int v2), (3, .int v3), (4, .int v4), (5, .int v5), (6, .int v6)]) hx hb dX4_solved_93 hl (k := 7) rfl rfl (by decide) rfl (fun ls hl => ?_)
        refine lv_goto (tgt := 51) hx hb dX4_solved_96 (by decide) ?_
        exact ih _ _ _ _ z h hE H locs ls hw (lv_sub hl [1, 2, 3, 4, 5, 6, 7, 0] rfl)
      · replace h := stT c5 h
        refine lv_iinc (v := (v5 + 1)) (lv' := [(5, .int (v5 + 1)), (0, .ref (q 21)), (1, .int v1), (2, .int v2), (3, .int v3), (4, .int v4), (6, .int v6), (7, .int v7)]) hx hb dX4_solved_90 hl (k := 5) rfl rfl (by decide) rfl (fun ls hl => ?_)
        refine lv_iinc (v := (v7 + 1)) (lv' := [(7, .int (v7 + 1)), (5, .int (v5 + 1)), (0, .ref (q 21)), (1, .int v1), (2, .int v2), (3, .int v3), (4, .int v4), (6, .int v6)]) hx hb dX4_solved_93 hl (k := 7) rfl rfl (by decide) rfl (fun ls hl => ?_)
        refine lv_goto (tgt := 51) hx hb dX4_solved_96 (by decide) ?_
        exact ih _ _ _ _ z h hE H locs ls hw (lv_sub hl [2, 3, 4, 5, 6, 1, 7, 0] rfl)
def f_X4_solved_L41 (zp : Int32) (aR : Nat → Int32) (v1 : Int32) (v2 : Int32) (v3 : Int32) : Nat → Int32 → Int32 → Int32 → Option (Int32)
  | 0, _, _, _ => none
  | fu + 1, v4, v5, v6 =>
    if v4 ≤ v6 then
    some v5
    else
    f_X4_solved_L51 zp aR v1 v2 v3 (fun w0 w1 w2 => f_X4_solved_L41 zp aR v1 v2 v3 fu w0 w1 w2) FU v4 v5 v6 0
set_option maxHeartbeats 4000000 in
set_option maxRecDepth 100000 in
theorem w_X4_solved_L41  {zp : Int32} {ze : Int32} {zf : Int32} {zg : Int32} {zn : Int32} {aG : Nat → Int32} {aW : Nat → Int32} {aR : Nat → Int32} {aN : Nat → Int32} {aF : Nat → Int32} {lC : Nat → Int64} {lS : Nat → Int64} {lP : Nat → Int64} {lX : Nat → Int64} {ztc : Int32} {aTs : Nat → Int32} {aTn : Nat → Int32} {zoc : Int32} {aOs : Nat → Int32} {aOn : Nat → Int32} {aTp : Nat → Int32} {zln : Int32} {zpl : Int32} {zfa : Int32} {aSz : Nat → Int32} {zit : Int32} {zip : Int32} {zic : Int32} {zig : Int32} {M : Nat → Nat → Int64} {v1 : Int32} {v2 : Int32} {v3 : Int32}  (F : Fx p s m args meth c cX4_solved 8 RX4 (some .int)) (hA : ∀ q, s.heap.size ≤ q → A q)   : ∀ (fu : Nat) (v4 : Int32) (v5 : Int32) (v6 : Int32) (z : Int32), f_X4_solved_L41 zp aR v1 v2 v3 fu v4 v5 v6 = some z → Ends p l e (rmOf 1 21) s m args below meth c Q cX4_solved G A (some .int) (some (.int z)) (kW G q zp ze zf zg zn aG aW aR aN aF lC lS lP lX ++ (oW G q ztc aTs aTn zoc aOs aOn aTp zln zpl zfa aSz zit zip zic zig M ++ fr)) → ∀ (H : Heap) (locs : List Loc) (ls : Array Slot), Wd G s A (kW G q zp ze zf zg zn aG aW aR aN aF lC lS lP lX ++ (oW G q ztc aTs aTn zoc aOs aOn aTp zln zpl zfa aSz zit zip zic zig M ++ fr)) H locs → lv_has ls 8 [(0, .ref (q 21)), (1, .int v1), (2, .int v2), (3, .int v3), (4, .int v4), (5, .int v5), (6, .int v6)] → W p l e (rmOf 1 21) s m args below meth c H locs 0 0 Q (F0 m 41 ls []) := by
  have hx := F.x
  have hb := F.b
  intro fu
  induction fu with
  | zero =>
    intro v4 v5 v6 z h
    cases (h : none = some z)
  | succ fu ih =>
    intro v4 v5 v6 z h hE H locs ls hw hl
    rw [f_X4_solved_L41] at h
    refine lv_iload hx hb dX4_solved_41 (lv_at hl 6 rfl) ?_
    refine lv_iload hx hb dX4_solved_43 (lv_at hl 4 rfl) ?_
    refine lv_icmp_ge (tgt := 105) hx hb dX4_solved_45 (by decide) (fun c1 => ?_) (fun c1 => ?_)
    · replace h := stT c1 h
      refine lv_iload hx hb dX4_solved_105 (lv_at hl 5 rfl) ?_
      obtain rfl := Option.some.inj h
      exact hE H locs _ ls hw dX4_solved_107
    · replace h := stF c1 h
      refine lv_iconst (v := 0) hx hb dX4_solved_48 (by decide) ?_
      refine lv_istore (lv' := [(7, .int 0), (0, .ref (q 21)), (1, .int v1), (2, .int v2), (3, .int v3), (4, .int v4), (5, .int v5), (6, .int v6)]) hx hb dX4_solved_49 hl (by decide) rfl (fun ls hl => ?_)
      exact w_X4_solved_L51 F hA  (fun w0 w1 w2 z h hE H locs ls hw hl => ih w0 w1 w2 z h hE H locs ls hw hl) FU _ _ _ _ z h hE H locs ls hw (lv_sub hl [1, 2, 3, 4, 5, 6, 7, 0] rfl)
def f_X4_solved (zp : Int32) (aR : Nat → Int32) (v1 : Int32) (v2 : Int32) (v3 : Int32) : Option (Int32) :=
  (f_X4_isRest zp v1).bind fun z1 =>
  if z1 = 0 then
  some (-1)
  else
  (f_X4_isRest zp v2).bind fun z3 =>
  if z3 = 0 then
  some (-1)
  else
  (f_X4_isRest zp v3).bind fun z5 =>
  if z5 = 0 then
  some (-1)
  else
  f_X4_solved_L41 zp aR v1 v2 v3 FU zp 0 0
set_option maxHeartbeats 4000000 in
set_option maxRecDepth 100000 in
theorem k_X4_solved {l : Launch} {G : GG} {q : Nat → Nat} {fr : va_W}  {zp : Int32} {ze : Int32} {zf : Int32} {zg : Int32} {zn : Int32} {aG : Nat → Int32} {aW : Nat → Int32} {aR : Nat → Int32} {aN : Nat → Int32} {aF : Nat → Int32} {lC : Nat → Int64} {lS : Nat → Int64} {lP : Nat → Int64} {lX : Nat → Int64} {ztc : Int32} {aTs : Nat → Int32} {aTn : Nat → Int32} {zoc : Int32} {aOs : Nat → Int32} {aOn : Nat → Int32} {aTp : Nat → Int32} {zln : Int32} {zpl : Int32} {zfa : Int32} {aSz : Nat → Int32} {zit : Int32} {zip : Int32} {zic : Int32} {zig : Int32} {M : Nat → Nat → Int64} {v1 : Int32} {v2 : Int32} {v3 : Int32} {z : Int32}  (h : f_X4_solved zp aR v1 v2 v3 = some z) : Ct l G yX4_solved cX4_solved 8 (some .int) 1 21 [.ref (q 21), .int v1, .int v2, .int v3] (kW G q zp ze zf zg zn aG aW aR aN aF lC lS lP lX ++ (oW G q ztc aTs aTn zoc aOs aOn aTp zln zpl zfa aSz zit zip zic zig M ++ fr)) (some (.int z)) (kW G q zp ze zf zg zn aG aW aR aN aF lC lS lP lX ++ (oW G q ztc aTs aTn zoc aOs aOn aTp zln zpl zfa aSz zit zip zic zig M ++ fr)) := by
  refine Ct.of (by decide +kernel) (Nat.le_of_ble_eq_true rfl) trivial ?_
  intro p e s m args below meth c Q A ls F hw hA hE hl
  have hx := F.x
  have hb := F.b
  unfold f_X4_solved at h
  obtain ⟨H, hH⟩ : ∃ H, H = s.heap := ⟨_, rfl⟩
  obtain ⟨locs, hlo⟩ : ∃ locs : List Loc, locs = [] := ⟨_, rfl⟩
  rw [← hH, ← hlo] at hw ⊢
  have hl : lv_has ls 8 [(0, .ref (q 21)), (1, .int v1), (2, .int v2), (3, .int v3)] := hl
  refine lv_aload_n hx hb dX4_solved_0 rfl (lv_at hl 0 rfl) ?_
  refine lv_iload_n hx hb dX4_solved_1 rfl (lv_at hl 1 rfl) ?_
  obtain ⟨z1, hz1, h⟩ := stB h
  refine ctV (av := [.int v1]) (st0 := ([] : List Value)) (st1 := ([.int z1] : List Value)) F hw hA (k_X4_isRest hz1) kl_4_120 kd_X4_isRest rfl ⟨by decide, by decide⟩ 21 rfl rfl hl.1 rfl (Nat.le_of_ble_eq_true rfl) dX4_solved_2 rfl (fun H locs hw => ?_)
  refine lv_if_eq (tgt := 24) hx hb dX4_solved_5 (by decide) (fun c2 => ?_) (fun c2 => ?_)
  · replace h := stT c2 h
    refine lv_iconst (v := -1) hx hb dX4_solved_24 (by decide) ?_
    obtain rfl := Option.some.inj h
    exact hE H locs _ ls hw dX4_solved_25
  · replace h := stF c2 h
    refine lv_aload_n hx hb dX4_solved_8 rfl (lv_at hl 0 rfl) ?_
    refine lv_iload_n hx hb dX4_solved_9 rfl (lv_at hl 2 rfl) ?_
    obtain ⟨z3, hz3, h⟩ := stB h
    refine ctV (av := [.int v2]) (st0 := ([] : List Value)) (st1 := ([.int z3] : List Value)) F hw hA (k_X4_isRest hz3) kl_4_120 kd_X4_isRest rfl ⟨by decide, by decide⟩ 21 rfl rfl hl.1 rfl (Nat.le_of_ble_eq_true rfl) dX4_solved_10 rfl (fun H locs hw => ?_)
    refine lv_if_eq (tgt := 24) hx hb dX4_solved_13 (by decide) (fun c4 => ?_) (fun c4 => ?_)
    · replace h := stT c4 h
      refine lv_iconst (v := -1) hx hb dX4_solved_24 (by decide) ?_
      obtain rfl := Option.some.inj h
      exact hE H locs _ ls hw dX4_solved_25
    · replace h := stF c4 h
      refine lv_aload_n hx hb dX4_solved_16 rfl (lv_at hl 0 rfl) ?_
      refine lv_iload_n hx hb dX4_solved_17 rfl (lv_at hl 3 rfl) ?_
      obtain ⟨z5, hz5, h⟩ := stB h
      refine ctV (av := [.int v3]) (st0 := ([] : List Value)) (st1 := ([.int z5] : List Value)) F hw hA (k_X4_isRest hz5) kl_4_120 kd_X4_isRest rfl ⟨by decide, by decide⟩ 21 rfl rfl hl.1 rfl (Nat.le_of_ble_eq_true rfl) dX4_solved_18 rfl (fun H locs hw => ?_)
      refine lv_if_ne (tgt := 26) hx hb dX4_solved_21 (by decide) (fun c6 => ?_) (fun c6 => ?_)
      · replace h := stF c6 h
        refine lv_aload_n hx hb dX4_solved_26 rfl (lv_at hl 0 rfl) ?_
        refine gf_4_14 F hw dX4_solved_27 ?_
        refine gf_4_64 F hw dX4_solved_30 ?_
        refine lv_istore (lv' := [(4, .int zp), (0, .ref (q 21)), (1, .int v1), (2, .int v2), (3, .int v3)]) hx hb dX4_solved_33 hl (by decide) rfl (fun ls hl => ?_)
        refine lv_iconst (v := 0) hx hb dX4_solved_35 (by decide) ?_
        refine lv_istore (lv' := [(5, .int 0), (4, .int zp), (0, .ref (q 21)), (1, .int v1), (2, .int v2), (3, .int v3)]) hx hb dX4_solved_36 hl (by decide) rfl (fun ls hl => ?_)
        refine lv_iconst (v := 0) hx hb dX4_solved_38 (by decide) ?_
        refine lv_istore (lv' := [(6, .int 0), (5, .int 0), (4, .int zp), (0, .ref (q 21)), (1, .int v1), (2, .int v2), (3, .int v3)]) hx hb dX4_solved_39 hl (by decide) rfl (fun ls hl => ?_)
        exact w_X4_solved_L41 F hA  FU _ _ _ z h hE H locs ls hw (lv_sub hl [3, 4, 5, 6, 2, 1, 0] rfl)
      · replace h := stT c6 h
        refine lv_iconst (v := -1) hx hb dX4_solved_24 (by decide) ?_
        obtain rfl := Option.some.inj h
        exact hE H locs _ ls hw dX4_solved_25
end
theorem dX4_polynomial_0 : decode cX4_polynomial 0 = .ok (.iload_n 1, 1) := by decide +kernel
theorem dX4_polynomial_1 : decode cX4_polynomial 1 = .ok (.ifCond .lt 14, 3) := by decide +kernel
theorem dX4_polynomial_4 : decode cX4_polynomial 4 = .ok (.iload_n 1, 1) := by decide +kernel
theorem dX4_polynomial_5 : decode cX4_polynomial 5 = .ok (.aload_n 0, 1) := by decide +kernel
theorem dX4_polynomial_6 : decode cX4_polynomial 6 = .ok (.getfield 14, 3) := by decide +kernel
theorem dX4_polynomial_9 : decode cX4_polynomial 9 = .ok (.getfield 75, 3) := by decide +kernel
theorem dX4_polynomial_12 : decode cX4_polynomial 12 = .ok (.if_icmp .le 7, 3) := by decide +kernel
theorem dX4_polynomial_15 : decode cX4_polynomial 15 = .ok (.ldc2_w 126, 3) := by decide +kernel
theorem dX4_polynomial_18 : decode cX4_polynomial 18 = .ok (.lreturn, 1) := by decide +kernel
theorem dX4_polynomial_19 : decode cX4_polynomial 19 = .ok (.aload_n 0, 1) := by decide +kernel
theorem dX4_polynomial_20 : decode cX4_polynomial 20 = .ok (.getfield 14, 3) := by decide +kernel
theorem dX4_polynomial_23 : decode cX4_polynomial 23 = .ok (.getfield 128, 3) := by decide +kernel
theorem dX4_polynomial_26 : decode cX4_polynomial 26 = .ok (.iload_n 1, 1) := by decide +kernel
theorem dX4_polynomial_27 : decode cX4_polynomial 27 = .ok (.laload, 1) := by decide +kernel
theorem dX4_polynomial_28 : decode cX4_polynomial 28 = .ok (.lreturn, 1) := by decide +kernel
section
variable {p : Program} {l : Launch} {e : Env} {s : State} {m : MethodId} {args : Array Value} {below : List Frame} {meth : Method} {c : Code} {Q : State → Prop} {G : GG} {A : Nat → Prop} {q : Nat → Nat} {fr : va_W}
def f_X4_polynomial (ze : Int32) (lC : Nat → Int64) (v1 : Int32) : Option (Int64) :=
  if v1 < 0 then
  some (-9223372036854775808)
  else
  if v1 ≤ ze then
  if inb v1 13 then
  some (lC v1.toNatClampNeg)
  else none
  else
  some (-9223372036854775808)
set_option maxHeartbeats 4000000 in
set_option maxRecDepth 100000 in
theorem k_X4_polynomial {l : Launch} {G : GG} {q : Nat → Nat} {fr : va_W}  {zp : Int32} {ze : Int32} {zf : Int32} {zg : Int32} {zn : Int32} {aG : Nat → Int32} {aW : Nat → Int32} {aR : Nat → Int32} {aN : Nat → Int32} {aF : Nat → Int32} {lC : Nat → Int64} {lS : Nat → Int64} {lP : Nat → Int64} {lX : Nat → Int64} {ztc : Int32} {aTs : Nat → Int32} {aTn : Nat → Int32} {zoc : Int32} {aOs : Nat → Int32} {aOn : Nat → Int32} {aTp : Nat → Int32} {zln : Int32} {zpl : Int32} {zfa : Int32} {aSz : Nat → Int32} {zit : Int32} {zip : Int32} {zic : Int32} {zig : Int32} {M : Nat → Nat → Int64} {v1 : Int32} {z : Int64}  (h : f_X4_polynomial ze lC v1 = some z) : Ct l G yX4_polynomial cX4_polynomial 2 (some .long) 0 0 [.ref (q 21), .int v1] (kW G q zp ze zf zg zn aG aW aR aN aF lC lS lP lX ++ (oW G q ztc aTs aTn zoc aOs aOn aTp zln zpl zfa aSz zit zip zic zig M ++ fr)) (some (.long z)) (kW G q zp ze zf zg zn aG aW aR aN aF lC lS lP lX ++ (oW G q ztc aTs aTn zoc aOs aOn aTp zln zpl zfa aSz zit zip zic zig M ++ fr)) := by
  refine Ct.of (by decide +kernel) (Nat.le_of_ble_eq_true rfl) trivial ?_
  intro p e s m args below meth c Q A ls F hw hA hE hl
  have hx := F.x
  have hb := F.b
  unfold f_X4_polynomial at h
  obtain ⟨H, hH⟩ : ∃ H, H = s.heap := ⟨_, rfl⟩
  obtain ⟨locs, hlo⟩ : ∃ locs : List Loc, locs = [] := ⟨_, rfl⟩
  rw [← hH, ← hlo] at hw ⊢
  have hl : lv_has ls 2 [(0, .ref (q 21)), (1, .int v1)] := hl
  refine lv_iload_n hx hb dX4_polynomial_0 rfl (lv_at hl 1 rfl) ?_
  refine lv_if_lt (tgt := 15) hx hb dX4_polynomial_1 (by decide) (fun c1 => ?_) (fun c1 => ?_)
  · replace h := stT c1 h
    refine lv_ldc2 (v := -9223372036854775808) hx hb F.ow (F.ts _ kc_4_126) dX4_polynomial_15 ?_
    obtain rfl := Option.some.inj h
    exact hE H locs _ ls hw dX4_polynomial_18
  · replace h := stF c1 h
    refine lv_iload_n hx hb dX4_polynomial_4 rfl (lv_at hl 1 rfl) ?_
    refine lv_aload_n hx hb dX4_polynomial_5 rfl (lv_at hl 0 rfl) ?_
    refine gf_4_14 F hw dX4_polynomial_6 ?_
    refine gf_4_75 F hw dX4_polynomial_9 ?_
    refine lv_icmp_le (tgt := 19) hx hb dX4_polynomial_12 (by decide) (fun c2 => ?_) (fun c2 => ?_)
    · replace h := stT c2 h
      refine lv_aload_n hx hb dX4_polynomial_19 rfl (lv_at hl 0 rfl) ?_
      refine gf_4_14 F hw dX4_polynomial_20 ?_
      refine gf_4_128 F hw dX4_polynomial_23 ?_
      refine lv_iload_n hx hb dX4_polynomial_26 rfl (lv_at hl 1 rfl) ?_
      obtain ⟨g3, h⟩ := stG h
      refine al_c6 F hw g3 dX4_polynomial_27 ?_
      obtain rfl := Option.some.inj h
      exact hE H locs _ ls hw dX4_polynomial_28
    · replace h := stF c2 h
      refine lv_ldc2 (v := -9223372036854775808) hx hb F.ow (F.ts _ kc_4_126) dX4_polynomial_15 ?_
      obtain rfl := Option.some.inj h
      exact hE H locs _ ls hw dX4_polynomial_18
end
theorem dX4_roots_0 : decode cX4_roots 0 = .ok (.iload_n 1, 1) := by decide +kernel
theorem dX4_roots_1 : decode cX4_roots 1 = .ok (.iconst 2, 1) := by decide +kernel
theorem dX4_roots_2 : decode cX4_roots 2 = .ok (.if_icmp .lt 9, 3) := by decide +kernel
theorem dX4_roots_5 : decode cX4_roots 5 = .ok (.iload_n 1, 1) := by decide +kernel
theorem dX4_roots_6 : decode cX4_roots 6 = .ok (.bipush 97, 2) := by decide +kernel
theorem dX4_roots_8 : decode cX4_roots 8 = .ok (.if_icmp .le 6, 3) := by decide +kernel
theorem dX4_roots_11 : decode cX4_roots 11 = .ok (.bipush (-2), 2) := by decide +kernel
theorem dX4_roots_13 : decode cX4_roots 13 = .ok (.ireturn, 1) := by decide +kernel
theorem dX4_roots_14 : decode cX4_roots 14 = .ok (.iconst 0, 1) := by decide +kernel
theorem dX4_roots_15 : decode cX4_roots 15 = .ok (.istore_n 2, 1) := by decide +kernel
theorem dX4_roots_16 : decode cX4_roots 16 = .ok (.iconst 0, 1) := by decide +kernel
theorem dX4_roots_17 : decode cX4_roots 17 = .ok (.istore_n 3, 1) := by decide +kernel
theorem dX4_roots_18 : decode cX4_roots 18 = .ok (.iload_n 3, 1) := by decide +kernel
theorem dX4_roots_19 : decode cX4_roots 19 = .ok (.iload_n 1, 1) := by decide +kernel
theorem dX4_roots_20 : decode cX4_roots 20 = .ok (.if_icmp .ge 63, 3) := by decide +kernel
theorem dX4_roots_23 : decode cX4_roots 23 = .ok (.lconst 0, 1) := by decide +kernel
theorem dX4_roots_24 : decode cX4_roots 24 = .ok (.lstore 4, 2) := by decide +kernel
theorem dX4_roots_26 : decode cX4_roots 26 = .ok (.aload_n 0, 1) := by decide +kernel
theorem dX4_roots_27 : decode cX4_roots 27 = .ok (.getfield 14, 3) := by decide +kernel
theorem dX4_roots_30 : decode cX4_roots 30 = .ok (.getfield 75, 3) := by decide +kernel
theorem dX4_roots_33 : decode cX4_roots 33 = .ok (.istore 6, 2) := by decide +kernel
theorem dX4_roots_35 : decode cX4_roots 35 = .ok (.iload 6, 2) := by decide +kernel
theorem dX4_roots_37 : decode cX4_roots 37 = .ok (.ifCond .lt 30, 3) := by decide +kernel
theorem dX4_roots_40 : decode cX4_roots 40 = .ok (.lload 4, 2) := by decide +kernel
theorem dX4_roots_42 : decode cX4_roots 42 = .ok (.iload_n 3, 1) := by decide +kernel
theorem dX4_roots_43 : decode cX4_roots 43 = .ok (.i2l, 1) := by decide +kernel
theorem dX4_roots_44 : decode cX4_roots 44 = .ok (.lmul, 1) := by decide +kernel
theorem dX4_roots_45 : decode cX4_roots 45 = .ok (.aload_n 0, 1) := by decide +kernel
theorem dX4_roots_46 : decode cX4_roots 46 = .ok (.getfield 14, 3) := by decide +kernel
theorem dX4_roots_49 : decode cX4_roots 49 = .ok (.getfield 128, 3) := by decide +kernel
theorem dX4_roots_52 : decode cX4_roots 52 = .ok (.iload 6, 2) := by decide +kernel
theorem dX4_roots_54 : decode cX4_roots 54 = .ok (.laload, 1) := by decide +kernel
theorem dX4_roots_55 : decode cX4_roots 55 = .ok (.ladd, 1) := by decide +kernel
theorem dX4_roots_56 : decode cX4_roots 56 = .ok (.iload_n 1, 1) := by decide +kernel
theorem dX4_roots_57 : decode cX4_roots 57 = .ok (.i2l, 1) := by decide +kernel
theorem dX4_roots_58 : decode cX4_roots 58 = .ok (.lrem, 1) := by decide +kernel
theorem dX4_roots_59 : decode cX4_roots 59 = .ok (.lstore 4, 2) := by decide +kernel
theorem dX4_roots_61 : decode cX4_roots 61 = .ok (.iinc 6 (-1), 3) := by decide +kernel
theorem dX4_roots_64 : decode cX4_roots 64 = .ok (.goto (-29), 3) := by decide +kernel
theorem dX4_roots_67 : decode cX4_roots 67 = .ok (.lload 4, 2) := by decide +kernel
theorem dX4_roots_69 : decode cX4_roots 69 = .ok (.lconst 0, 1) := by decide +kernel
theorem dX4_roots_70 : decode cX4_roots 70 = .ok (.lcmp, 1) := by decide +kernel
theorem dX4_roots_71 : decode cX4_roots 71 = .ok (.ifCond .ne 6, 3) := by decide +kernel
theorem dX4_roots_74 : decode cX4_roots 74 = .ok (.iinc 2 1, 3) := by decide +kernel
theorem dX4_roots_77 : decode cX4_roots 77 = .ok (.iinc 3 1, 3) := by decide +kernel
theorem dX4_roots_80 : decode cX4_roots 80 = .ok (.goto (-62), 3) := by decide +kernel
theorem dX4_roots_83 : decode cX4_roots 83 = .ok (.iload_n 2, 1) := by decide +kernel
theorem dX4_roots_84 : decode cX4_roots 84 = .ok (.ireturn, 1) := by decide +kernel
section
variable {p : Program} {l : Launch} {e : Env} {s : State} {m : MethodId} {args : Array Value} {below : List Frame} {meth : Method} {c : Code} {Q : State → Prop} {G : GG} {A : Nat → Prop} {q : Nat → Nat} {fr : va_W}
def f_X4_roots_L35 (ze : Int32) (lC : Nat → Int64) (v1 : Int32) (KK : Int32 → Int32 → Option (Int32)) : Nat → Int32 → Int32 → Int64 → Int32 → Option (Int32)
  | 0, _, _, _, _ => none
  | fu + 1, v2, v3, v4, v6 =>
    if v6 < 0 then
    if (lg_cmp v4 0) = 0 then
    KK (v2 + 1) (v3 + 1)
    else
    KK v2 (v3 + 1)
    else
    if inb v6 13 then
    if v1.toInt64 = 0 then none else
    f_X4_roots_L35 ze lC v1 KK fu v2 v3 (((v4 * v3.toInt64) + (lC v6.toNatClampNeg)) - ((v4 * v3.toInt64) + (lC v6.toNatClampNeg)) / v1.toInt64 * v1.toInt64) (v6 + (-1))
    else none
set_option maxHeartbeats 4000000 in
set_option maxRecDepth 100000 in
theorem w_X4_roots_L35  {zp : Int32} {ze : Int32} {zf : Int32} {zg : Int32} {zn : Int32} {aG : Nat → Int32} {aW : Nat → Int32} {aR : Nat → Int32} {aN : Nat → Int32} {aF : Nat → Int32} {lC : Nat → Int64} {lS : Nat → Int64} {lP : Nat → Int64} {lX : Nat → Int64} {ztc : Int32} {aTs : Nat → Int32} {aTn : Nat → Int32} {zoc : Int32} {aOs : Nat → Int32} {aOn : Nat → Int32} {aTp : Nat → Int32} {zln : Int32} {zpl : Int32} {zfa : Int32} {aSz : Nat → Int32} {zit : Int32} {zip : Int32} {zic : Int32} {zig : Int32} {M : Nat → Nat → Int64} {v1 : Int32} {KK : Int32 → Int32 → Option (Int32)} (F : Fx p s m args meth c cX4_roots 7 RX4 (some .int)) (hA : ∀ q, s.heap.size ≤ q → A q)  (hK : ∀ (v2 : Int32) (v3 : Int32) (z : Int32), KK v2 v3 = some z → Ends p l e (rmOf 0 0) s m args below meth c Q cX4_roots G A (some .int) (some (.int z)) (kW G q zp ze zf zg zn aG aW aR aN aF lC lS lP lX ++ (oW G q ztc aTs aTn zoc aOs aOn aTp zln zpl zfa aSz zit zip zic zig M ++ fr)) → ∀ (H : Heap) (locs : List Loc) (ls : Array Slot), Wd G s A (kW G q zp ze zf zg zn aG aW aR aN aF lC lS lP lX ++ (oW G q ztc aTs aTn zoc aOs aOn aTp zln zpl zfa aSz zit zip zic zig M ++ fr)) H locs → lv_has ls 7 [(0, .ref (q 21)), (1, .int v1), (2, .int v2), (3, .int v3)] → W p l e (rmOf 0 0) s m args below meth c H locs 0 0 Q (F0 m 18 ls [])) : ∀ (fu : Nat) (v2 : Int32) (v3 : Int32) (v4 : Int64) (v6 : Int32) (z : Int32), f_X4_roots_L35 ze lC v1 KK fu v2 v3 v4 v6 = some z → Ends p l e (rmOf 0 0) s m args below meth c Q cX4_roots G A (some .int) (some (.int z)) (kW G q zp ze zf zg zn aG aW aR aN aF lC lS lP lX ++ (oW G q ztc aTs aTn zoc aOs aOn aTp zln zpl zfa aSz zit zip zic zig M ++ fr)) → ∀ (H : Heap) (locs : List Loc) (ls : Array Slot), Wd G s A (kW G q zp ze zf zg zn aG aW aR aN aF lC lS lP lX ++ (oW G q ztc aTs aTn zoc aOs aOn aTp zln zpl zfa aSz zit zip zic zig M ++ fr)) H locs → lv_has ls 7 [(0, .ref (q 21)), (1, .int v1), (2, .int v2), (3, .int v3), (4, .long v4), (6, .int v6)] → W p l e (rmOf 0 0) s m args below meth c H locs 0 0 Q (F0 m 35 ls []) := by
  have hx := F.x
  have hb := F.b
  intro fu
  induction fu with
  | zero =>
    intro v2 v3 v4 v6 z h
    cases (h : none = some z)
  | succ fu ih =>
    intro v2 v3 v4 v6 z h hE H locs ls hw hl
    rw [f_X4_roots_L35] at h
    refine lv_iload hx hb dX4_roots_35 (lv_at hl 5 rfl) ?_
    refine lv_if_lt (tgt := 67) hx hb dX4_roots_37 (by decide) (fun c1 => ?_) (fun c1 => ?_)
    · replace h := stT c1 h
      refine lv_lload hx hb dX4_roots_67 (lv_at hl 4 rfl) ?_
      refine lv_lconst (v := 0) hx hb dX4_roots_69 (by decide) ?_
      refine W.lcmp hx hb dX4_roots_70 ?_
      refine lv_if_ne (tgt := 77) hx hb dX4_roots_71 (by decide) (fun c2 => ?_) (fun c2 => ?_)
      · replace h := stF c2 h
        refine lv_iinc (v := (v3 + 1)) (lv' := [(3, .int (v3 + 1)), (0, .ref (q 21)), (1, .int v1), (2, .int v2), (4, .long v4), (6, .int v6)]) hx hb dX4_roots_77 hl (k := 3) rfl rfl (by decide) rfl (fun ls hl => ?_)
        refine lv_goto (tgt := 18) hx hb dX4_roots_80 (by decide) ?_
        exact hK _ _ z h hE H locs ls hw (lv_sub hl [1, 2, 3, 0] rfl)
      · replace h := stT c2 h
        refine lv_iinc (v := (v2 + 1)) (lv' := [(2, .int (v2 + 1)), (0, .ref (q 21)), (1, .int v1), (3, .int v3), (4, .long v4), (6, .int v6)]) hx hb dX4_roots_74 hl (k := 2) rfl rfl (by decide) rfl (fun ls hl => ?_)
        refine lv_iinc (v := (v3 + 1)) (lv' := [(3, .int (v3 + 1)), (2, .int (v2 + 1)), (0, .ref (q 21)), (1, .int v1), (4, .long v4), (6, .int v6)]) hx hb dX4_roots_77 hl (k := 3) rfl rfl (by decide) rfl (fun ls hl => ?_)
        refine lv_goto (tgt := 18) hx hb dX4_roots_80 (by decide) ?_
        exact hK _ _ z h hE H locs ls hw (lv_sub hl [2, 3, 1, 0] rfl)
    · replace h := stF c1 h
      refine lv_lload hx hb dX4_roots_40 (lv_at hl 4 rfl) ?_
      refine lv_iload_n hx hb dX4_roots_42 rfl (lv_at hl 3 rfl) ?_
      refine lv_i2l (v := v3.toInt64) hx hb dX4_roots_43 rfl ?_
      refine lv_lmul hx hb dX4_roots_44 ?_
      refine lv_aload_n hx hb dX4_roots_45 rfl (lv_at hl 0 rfl) ?_
      refine gf_4_14 F hw dX4_roots_46 ?_
      refine gf_4_128 F hw dX4_roots_49 ?_
      refine lv_iload hx hb dX4_roots_52 (lv_at hl 5 rfl) ?_
      obtain ⟨g3, h⟩ := stG h
      refine al_c6 F hw g3 dX4_roots_54 ?_
      refine lv_ladd hx hb dX4_roots_55 ?_
      refine lv_iload_n hx hb dX4_roots_56 rfl (lv_at hl 1 rfl) ?_
      refine lv_i2l (v := v1.toInt64) hx hb dX4_roots_57 rfl ?_
      obtain ⟨g4, h⟩ := stD h
      refine lv_lrem hx hb dX4_roots_58 g4 ?_
      refine lv_lstore (lv' := [(4, .long (((v4 * v3.toInt64) + (lC v6.toNatClampNeg)) - ((v4 * v3.toInt64) + (lC v6.toNatClampNeg)) / v1.toInt64 * v1.toInt64)), (0, .ref (q 21)), (1, .int v1), (2, .int v2), (3, .int v3), (6, .int v6)]) hx hb dX4_roots_59 hl (by decide) rfl (fun ls hl => ?_)
      refine lv_iinc (v := (v6 + (-1))) (lv' := [(6, .int (v6 + (-1))), (4, .long (((v4 * v3.toInt64) + (lC v6.toNatClampNeg)) - ((v4 * v3.toInt64) + (lC v6.toNatClampNeg)) / v1.toInt64 * v1.toInt64)), (0, .ref (q 21)), (1, .int v1), (2, .int v2), (3, .int v3)]) hx hb dX4_roots_61 hl (k := 5) rfl rfl (by decide) rfl (fun ls hl => ?_)
      refine lv_goto (tgt := 35) hx hb dX4_roots_64 (by decide) ?_
      exact ih _ _ _ _ z h hE H locs ls hw (lv_sub hl [2, 3, 4, 5, 1, 0] rfl)
def f_X4_roots_L18 (ze : Int32) (lC : Nat → Int64) (v1 : Int32) : Nat → Int32 → Int32 → Option (Int32)
  | 0, _, _ => none
  | fu + 1, v2, v3 =>
    if v1 ≤ v3 then
    some v2
    else
    f_X4_roots_L35 ze lC v1 (fun w0 w1 => f_X4_roots_L18 ze lC v1 fu w0 w1) FU v2 v3 0 ze
set_option maxHeartbeats 4000000 in
set_option maxRecDepth 100000 in
theorem w_X4_roots_L18  {zp : Int32} {ze : Int32} {zf : Int32} {zg : Int32} {zn : Int32} {aG : Nat → Int32} {aW : Nat → Int32} {aR : Nat → Int32} {aN : Nat → Int32} {aF : Nat → Int32} {lC : Nat → Int64} {lS : Nat → Int64} {lP : Nat → Int64} {lX : Nat → Int64} {ztc : Int32} {aTs : Nat → Int32} {aTn : Nat → Int32} {zoc : Int32} {aOs : Nat → Int32} {aOn : Nat → Int32} {aTp : Nat → Int32} {zln : Int32} {zpl : Int32} {zfa : Int32} {aSz : Nat → Int32} {zit : Int32} {zip : Int32} {zic : Int32} {zig : Int32} {M : Nat → Nat → Int64} {v1 : Int32}  (F : Fx p s m args meth c cX4_roots 7 RX4 (some .int)) (hA : ∀ q, s.heap.size ≤ q → A q)   : ∀ (fu : Nat) (v2 : Int32) (v3 : Int32) (z : Int32), f_X4_roots_L18 ze lC v1 fu v2 v3 = some z → Ends p l e (rmOf 0 0) s m args below meth c Q cX4_roots G A (some .int) (some (.int z)) (kW G q zp ze zf zg zn aG aW aR aN aF lC lS lP lX ++ (oW G q ztc aTs aTn zoc aOs aOn aTp zln zpl zfa aSz zit zip zic zig M ++ fr)) → ∀ (H : Heap) (locs : List Loc) (ls : Array Slot), Wd G s A (kW G q zp ze zf zg zn aG aW aR aN aF lC lS lP lX ++ (oW G q ztc aTs aTn zoc aOs aOn aTp zln zpl zfa aSz zit zip zic zig M ++ fr)) H locs → lv_has ls 7 [(0, .ref (q 21)), (1, .int v1), (2, .int v2), (3, .int v3)] → W p l e (rmOf 0 0) s m args below meth c H locs 0 0 Q (F0 m 18 ls []) := by
  have hx := F.x
  have hb := F.b
  intro fu
  induction fu with
  | zero =>
    intro v2 v3 z h
    cases (h : none = some z)
  | succ fu ih =>
    intro v2 v3 z h hE H locs ls hw hl
    rw [f_X4_roots_L18] at h
    refine lv_iload_n hx hb dX4_roots_18 rfl (lv_at hl 3 rfl) ?_
    refine lv_iload_n hx hb dX4_roots_19 rfl (lv_at hl 1 rfl) ?_
    refine lv_icmp_ge (tgt := 83) hx hb dX4_roots_20 (by decide) (fun c1 => ?_) (fun c1 => ?_)
    · replace h := stT c1 h
      refine lv_iload_n hx hb dX4_roots_83 rfl (lv_at hl 2 rfl) ?_
      obtain rfl := Option.some.inj h
      exact hE H locs _ ls hw dX4_roots_84
    · replace h := stF c1 h
      refine lv_lconst (v := 0) hx hb dX4_roots_23 (by decide) ?_
      refine lv_lstore (lv' := [(4, .long 0), (0, .ref (q 21)), (1, .int v1), (2, .int v2), (3, .int v3)]) hx hb dX4_roots_24 hl (by decide) rfl (fun ls hl => ?_)
      refine lv_aload_n hx hb dX4_roots_26 rfl (lv_at hl 1 rfl) ?_
      refine gf_4_14 F hw dX4_roots_27 ?_
      refine gf_4_75 F hw dX4_roots_30 ?_
      refine lv_istore (lv' := [(6, .int ze), (4, .long 0), (0, .ref (q 21)), (1, .int v1), (2, .int v2), (3, .int v3)]) hx hb dX4_roots_33 hl (by decide) rfl (fun ls hl => ?_)
      exact w_X4_roots_L35 F hA  (fun w0 w1 z h hE H locs ls hw hl => ih w0 w1 z h hE H locs ls hw hl) FU _ _ _ _ z h hE H locs ls hw (lv_sub hl [2, 3, 4, 5, 1, 0] rfl)
def f_X4_roots (ze : Int32) (lC : Nat → Int64) (v1 : Int32) : Option (Int32) :=
  if v1 < 2 then
  some (-2)
  else
  if v1 ≤ 97 then
  f_X4_roots_L18 ze lC v1 FU 0 0
  else
  some (-2)
set_option maxHeartbeats 4000000 in
set_option maxRecDepth 100000 in
theorem k_X4_roots {l : Launch} {G : GG} {q : Nat → Nat} {fr : va_W}  {zp : Int32} {ze : Int32} {zf : Int32} {zg : Int32} {zn : Int32} {aG : Nat → Int32} {aW : Nat → Int32} {aR : Nat → Int32} {aN : Nat → Int32} {aF : Nat → Int32} {lC : Nat → Int64} {lS : Nat → Int64} {lP : Nat → Int64} {lX : Nat → Int64} {ztc : Int32} {aTs : Nat → Int32} {aTn : Nat → Int32} {zoc : Int32} {aOs : Nat → Int32} {aOn : Nat → Int32} {aTp : Nat → Int32} {zln : Int32} {zpl : Int32} {zfa : Int32} {aSz : Nat → Int32} {zit : Int32} {zip : Int32} {zic : Int32} {zig : Int32} {M : Nat → Nat → Int64} {v1 : Int32} {z : Int32}  (h : f_X4_roots ze lC v1 = some z) : Ct l G yX4_roots cX4_roots 7 (some .int) 0 0 [.ref (q 21), .int v1] (kW G q zp ze zf zg zn aG aW aR aN aF lC lS lP lX ++ (oW G q ztc aTs aTn zoc aOs aOn aTp zln zpl zfa aSz zit zip zic zig M ++ fr)) (some (.int z)) (kW G q zp ze zf zg zn aG aW aR aN aF lC lS lP lX ++ (oW G q ztc aTs aTn zoc aOs aOn aTp zln zpl zfa aSz zit zip zic zig M ++ fr)) := by
  refine Ct.of (by decide +kernel) (Nat.le_of_ble_eq_true rfl) trivial ?_
  intro p e s m args below meth c Q A ls F hw hA hE hl
  have hx := F.x
  have hb := F.b
  unfold f_X4_roots at h
  obtain ⟨H, hH⟩ : ∃ H, H = s.heap := ⟨_, rfl⟩
  obtain ⟨locs, hlo⟩ : ∃ locs : List Loc, locs = [] := ⟨_, rfl⟩
  rw [← hH, ← hlo] at hw ⊢
  have hl : lv_has ls 7 [(0, .ref (q 21)), (1, .int v1)] := hl
  refine lv_iload_n hx hb dX4_roots_0 rfl (lv_at hl 1 rfl) ?_
  refine lv_iconst (v := 2) hx hb dX4_roots_1 (by decide) ?_
  refine lv_icmp_lt (tgt := 11) hx hb dX4_roots_2 (by decide) (fun c1 => ?_) (fun c1 => ?_)
  · replace h := stT c1 h
    refine lv_bipush (v := -2) hx hb dX4_roots_11 (by decide) ?_
    obtain rfl := Option.some.inj h
    exact hE H locs _ ls hw dX4_roots_13
  · replace h := stF c1 h
    refine lv_iload_n hx hb dX4_roots_5 rfl (lv_at hl 1 rfl) ?_
    refine lv_bipush (v := 97) hx hb dX4_roots_6 (by decide) ?_
    refine lv_icmp_le (tgt := 14) hx hb dX4_roots_8 (by decide) (fun c2 => ?_) (fun c2 => ?_)
    · replace h := stT c2 h
      refine lv_iconst (v := 0) hx hb dX4_roots_14 (by decide) ?_
      refine lv_istore_n (lv' := [(2, .int 0), (0, .ref (q 21)), (1, .int v1)]) hx hb dX4_roots_15 rfl hl (by decide) rfl (fun ls hl => ?_)
      refine lv_iconst (v := 0) hx hb dX4_roots_16 (by decide) ?_
      refine lv_istore_n (lv' := [(3, .int 0), (2, .int 0), (0, .ref (q 21)), (1, .int v1)]) hx hb dX4_roots_17 rfl hl (by decide) rfl (fun ls hl => ?_)
      exact w_X4_roots_L18 F hA  FU _ _ z h hE H locs ls hw (lv_sub hl [2, 3, 1, 0] rfl)
    · replace h := stF c2 h
      refine lv_bipush (v := -2) hx hb dX4_roots_11 (by decide) ?_
      obtain rfl := Option.some.inj h
      exact hE H locs _ ls hw dX4_roots_13
end
