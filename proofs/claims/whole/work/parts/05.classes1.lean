/-! printed by wip/whole/mk.py: the functions that mirror the bytecode, and the contracts over them -/
theorem dX0_isGenerator_0 : decode cX0_isGenerator 0 = .ok (.iload_n 1, 1) := by decide +kernel
theorem dX0_isGenerator_1 : decode cX0_isGenerator 1 = .ok (.iconst 1, 1) := by decide +kernel
theorem dX0_isGenerator_2 : decode cX0_isGenerator 2 = .ok (.if_icmp .lt 11, 3) := by decide +kernel
theorem dX0_isGenerator_5 : decode cX0_isGenerator 5 = .ok (.iload_n 1, 1) := by decide +kernel
theorem dX0_isGenerator_6 : decode cX0_isGenerator 6 = .ok (.aload_n 0, 1) := by decide +kernel
theorem dX0_isGenerator_7 : decode cX0_isGenerator 7 = .ok (.getfield 44, 3) := by decide +kernel
theorem dX0_isGenerator_10 : decode cX0_isGenerator 10 = .ok (.if_icmp .lt 5, 3) := by decide +kernel
theorem dX0_isGenerator_13 : decode cX0_isGenerator 13 = .ok (.iconst 0, 1) := by decide +kernel
theorem dX0_isGenerator_14 : decode cX0_isGenerator 14 = .ok (.ireturn, 1) := by decide +kernel
theorem dX0_isGenerator_15 : decode cX0_isGenerator 15 = .ok (.iconst 1, 1) := by decide +kernel
theorem dX0_isGenerator_16 : decode cX0_isGenerator 16 = .ok (.istore_n 2, 1) := by decide +kernel
theorem dX0_isGenerator_17 : decode cX0_isGenerator 17 = .ok (.iconst 1, 1) := by decide +kernel
theorem dX0_isGenerator_18 : decode cX0_isGenerator 18 = .ok (.istore_n 3, 1) := by decide +kernel
theorem dX0_isGenerator_19 : decode cX0_isGenerator 19 = .ok (.iload_n 3, 1) := by decide +kernel
theorem dX0_isGenerator_20 : decode cX0_isGenerator 20 = .ok (.aload_n 0, 1) := by decide +kernel
theorem dX0_isGenerator_21 : decode cX0_isGenerator 21 = .ok (.getfield 44, 3) := by decide +kernel
theorem dX0_isGenerator_24 : decode cX0_isGenerator 24 = .ok (.iconst 1, 1) := by decide +kernel
theorem dX0_isGenerator_25 : decode cX0_isGenerator 25 = .ok (.isub, 1) := by decide +kernel
theorem dX0_isGenerator_26 : decode cX0_isGenerator 26 = .ok (.if_icmp .ge 25, 3) := by decide +kernel
theorem dX0_isGenerator_29 : decode cX0_isGenerator 29 = .ok (.iload_n 2, 1) := by decide +kernel
theorem dX0_isGenerator_30 : decode cX0_isGenerator 30 = .ok (.iload_n 1, 1) := by decide +kernel
theorem dX0_isGenerator_31 : decode cX0_isGenerator 31 = .ok (.imul, 1) := by decide +kernel
theorem dX0_isGenerator_32 : decode cX0_isGenerator 32 = .ok (.aload_n 0, 1) := by decide +kernel
theorem dX0_isGenerator_33 : decode cX0_isGenerator 33 = .ok (.getfield 44, 3) := by decide +kernel
theorem dX0_isGenerator_36 : decode cX0_isGenerator 36 = .ok (.irem, 1) := by decide +kernel
theorem dX0_isGenerator_37 : decode cX0_isGenerator 37 = .ok (.istore_n 2, 1) := by decide +kernel
theorem dX0_isGenerator_38 : decode cX0_isGenerator 38 = .ok (.iload_n 2, 1) := by decide +kernel
theorem dX0_isGenerator_39 : decode cX0_isGenerator 39 = .ok (.iconst 1, 1) := by decide +kernel
theorem dX0_isGenerator_40 : decode cX0_isGenerator 40 = .ok (.if_icmp .ne 5, 3) := by decide +kernel
theorem dX0_isGenerator_43 : decode cX0_isGenerator 43 = .ok (.iconst 0, 1) := by decide +kernel
theorem dX0_isGenerator_44 : decode cX0_isGenerator 44 = .ok (.ireturn, 1) := by decide +kernel
theorem dX0_isGenerator_45 : decode cX0_isGenerator 45 = .ok (.iinc 3 1, 3) := by decide +kernel
theorem dX0_isGenerator_48 : decode cX0_isGenerator 48 = .ok (.goto (-29), 3) := by decide +kernel
theorem dX0_isGenerator_51 : decode cX0_isGenerator 51 = .ok (.iconst 1, 1) := by decide +kernel
theorem dX0_isGenerator_52 : decode cX0_isGenerator 52 = .ok (.ireturn, 1) := by decide +kernel
section
variable {p : Program} {l : Launch} {e : Env} {s : State} {m : MethodId} {args : Array Value} {below : List Frame} {meth : Method} {c : Code} {Q : State → Prop} {G : GG} {A : Nat → Prop} {q : Nat → Nat} {fr : va_W}
def f_X0_isGenerator_L19 (zp : Int32) (v1 : Int32) : Nat → Int32 → Int32 → Option (Int32)
  | 0, _, _ => none
  | fu + 1, v2, v3 =>
    if (zp - 1) ≤ v3 then
    some 1
    else
    if zp = 0 then none else
    if ((v2 * v1) - (v2 * v1) / zp * zp) = 1 then
    some 0
    else
    f_X0_isGenerator_L19 zp v1 fu ((v2 * v1) - (v2 * v1) / zp * zp) (v3 + 1)
set_option maxHeartbeats 4000000 in
set_option maxRecDepth 100000 in
theorem w_X0_isGenerator_L19  {zp : Int32} {ze : Int32} {zf : Int32} {zg : Int32} {zn : Int32} {aG : Nat → Int32} {aW : Nat → Int32} {aR : Nat → Int32} {aN : Nat → Int32} {aF : Nat → Int32} {lC : Nat → Int64} {lS : Nat → Int64} {lP : Nat → Int64} {lX : Nat → Int64} {v1 : Int32}  (F : Fx p s m args meth c cX0_isGenerator 4 RX0 (some .boolean)) (hA : ∀ q, s.heap.size ≤ q → A q)   : ∀ (fu : Nat) (v2 : Int32) (v3 : Int32) (z : Int32), f_X0_isGenerator_L19 zp v1 fu v2 v3 = some z → Ends p l e (rmOf 0 0) s m args below meth c Q cX0_isGenerator G A (some .boolean) (some (.int z)) (kW G q zp ze zf zg zn aG aW aR aN aF lC lS lP lX ++ fr) → ∀ (H : Heap) (locs : List Loc) (ls : Array Slot), Wd G s A (kW G q zp ze zf zg zn aG aW aR aN aF lC lS lP lX ++ fr) H locs → lv_has ls 4 [(0, .ref (q 0)), (1, .int v1), (2, .int v2), (3, .int v3)] → W p l e (rmOf 0 0) s m args below meth c H locs 0 0 Q (F0 m 19 ls []) := by
  have hx := F.x
  have hb := F.b
  intro fu
  induction fu with
  | zero =>
    intro v2 v3 z h
    cases (h : none = some z)
  | succ fu ih =>
    intro v2 v3 z h hE H locs ls hw hl
    rw [f_X0_isGenerator_L19] at h
    refine lv_iload_n hx hb dX0_isGenerator_19 rfl (lv_at hl 3 rfl) ?_
    refine lv_aload_n hx hb dX0_isGenerator_20 rfl (lv_at hl 0 rfl) ?_
    refine gf_0_44 F hw dX0_isGenerator_21 ?_
    refine lv_iconst (v := 1) hx hb dX0_isGenerator_24 (by decide) ?_
    refine lv_isub hx hb dX0_isGenerator_25 ?_
    refine lv_icmp_ge (tgt := 51) hx hb dX0_isGenerator_26 (by decide) (fun c1 => ?_) (fun c1 => ?_)
    · replace h := stT c1 h
      refine lv_iconst (v := 1) hx hb dX0_isGenerator_51 (by decide) ?_
      obtain rfl := Option.some.inj h
      exact hE H locs _ ls hw (Or.inr rfl) dX0_isGenerator_52
    · replace h := stF c1 h
      refine lv_iload_n hx hb dX0_isGenerator_29 rfl (lv_at hl 2 rfl) ?_
      refine lv_iload_n hx hb dX0_isGenerator_30 rfl (lv_at hl 1 rfl) ?_
      refine lv_imul hx hb dX0_isGenerator_31 ?_
      refine lv_aload_n hx hb dX0_isGenerator_32 rfl (lv_at hl 0 rfl) ?_
      refine gf_0_44 F hw dX0_isGenerator_33 ?_
      obtain ⟨g2, h⟩ := stD h
      refine lv_irem hx hb dX0_isGenerator_36 g2 ?_
      refine lv_istore_n (lv' := [(2, .int ((v2 * v1) - (v2 * v1) / zp * zp)), (0, .ref (q 0)), (1, .int v1), (3, .int v3)]) hx hb dX0_isGenerator_37 rfl hl (by decide) rfl (fun ls hl => ?_)
      refine lv_iload_n hx hb dX0_isGenerator_38 rfl (lv_at hl 0 rfl) ?_
      refine lv_iconst (v := 1) hx hb dX0_isGenerator_39 (by decide) ?_
      refine lv_icmp_ne (tgt := 45) hx hb dX0_isGenerator_40 (by decide) (fun c3 => ?_) (fun c3 => ?_)
      · replace h := stF c3 h
        refine lv_iinc (v := (v3 + 1)) (lv' := [(3, .int (v3 + 1)), (2, .int ((v2 * v1) - (v2 * v1) / zp * zp)), (0, .ref (q 0)), (1, .int v1)]) hx hb dX0_isGenerator_45 hl (k := 3) rfl rfl (by decide) rfl (fun ls hl => ?_)
        refine lv_goto (tgt := 19) hx hb dX0_isGenerator_48 (by decide) ?_
        exact ih _ _ z h hE H locs ls hw (lv_sub hl [2, 3, 1, 0] rfl)
      · replace h := stT c3 h
        refine lv_iconst (v := 0) hx hb dX0_isGenerator_43 (by decide) ?_
        obtain rfl := Option.some.inj h
        exact hE H locs _ ls hw (Or.inl rfl) dX0_isGenerator_44
def f_X0_isGenerator (zp : Int32) (v1 : Int32) : Option (Int32) :=
  if v1 < 1 then
  some 0
  else
  if v1 < zp then
  f_X0_isGenerator_L19 zp v1 FU 1 1
  else
  some 0
set_option maxHeartbeats 4000000 in
set_option maxRecDepth 100000 in
theorem k_X0_isGenerator {l : Launch} {G : GG} {q : Nat → Nat} {fr : va_W}  {zp : Int32} {ze : Int32} {zf : Int32} {zg : Int32} {zn : Int32} {aG : Nat → Int32} {aW : Nat → Int32} {aR : Nat → Int32} {aN : Nat → Int32} {aF : Nat → Int32} {lC : Nat → Int64} {lS : Nat → Int64} {lP : Nat → Int64} {lX : Nat → Int64} {v1 : Int32} {z : Int32}  (h : f_X0_isGenerator zp v1 = some z) : Ct l G yX0_isGenerator cX0_isGenerator 4 (some .boolean) 0 0 [.ref (q 0), .int v1] (kW G q zp ze zf zg zn aG aW aR aN aF lC lS lP lX ++ fr) (some (.int z)) (kW G q zp ze zf zg zn aG aW aR aN aF lC lS lP lX ++ fr) := by
  refine Ct.of (by decide +kernel) (Nat.le_of_ble_eq_true rfl) trivial ?_
  intro p e s m args below meth c Q A ls F hw hA hE hl
  have hx := F.x
  have hb := F.b
  unfold f_X0_isGenerator at h
  obtain ⟨H, hH⟩ : ∃ H, H = s.heap := ⟨_, rfl⟩
  obtain ⟨locs, hlo⟩ : ∃ locs : List Loc, locs = [] := ⟨_, rfl⟩
  rw [← hH, ← hlo] at hw ⊢
  have hl : lv_has ls 4 [(0, .ref (q 0)), (1, .int v1)] := hl
  refine lv_iload_n hx hb dX0_isGenerator_0 rfl (lv_at hl 1 rfl) ?_
  refine lv_iconst (v := 1) hx hb dX0_isGenerator_1 (by decide) ?_
  refine lv_icmp_lt (tgt := 13) hx hb dX0_isGenerator_2 (by decide) (fun c1 => ?_) (fun c1 => ?_)
  · replace h := stT c1 h
    refine lv_iconst (v := 0) hx hb dX0_isGenerator_13 (by decide) ?_
    obtain rfl := Option.some.inj h
    exact hE H locs _ ls hw (Or.inl rfl) dX0_isGenerator_14
  · replace h := stF c1 h
    refine lv_iload_n hx hb dX0_isGenerator_5 rfl (lv_at hl 1 rfl) ?_
    refine lv_aload_n hx hb dX0_isGenerator_6 rfl (lv_at hl 0 rfl) ?_
    refine gf_0_44 F hw dX0_isGenerator_7 ?_
    refine lv_icmp_lt (tgt := 15) hx hb dX0_isGenerator_10 (by decide) (fun c2 => ?_) (fun c2 => ?_)
    · replace h := stT c2 h
      refine lv_iconst (v := 1) hx hb dX0_isGenerator_15 (by decide) ?_
      refine lv_istore_n (lv' := [(2, .int 1), (0, .ref (q 0)), (1, .int v1)]) hx hb dX0_isGenerator_16 rfl hl (by decide) rfl (fun ls hl => ?_)
      refine lv_iconst (v := 1) hx hb dX0_isGenerator_17 (by decide) ?_
      refine lv_istore_n (lv' := [(3, .int 1), (2, .int 1), (0, .ref (q 0)), (1, .int v1)]) hx hb dX0_isGenerator_18 rfl hl (by decide) rfl (fun ls hl => ?_)
      exact w_X0_isGenerator_L19 F hA  FU _ _ z h hE H locs ls hw (lv_sub hl [2, 3, 1, 0] rfl)
    · replace h := stF c2 h
      refine lv_iconst (v := 0) hx hb dX0_isGenerator_13 (by decide) ?_
      obtain rfl := Option.some.inj h
      exact hE H locs _ ls hw (Or.inl rfl) dX0_isGenerator_14
end
theorem dX0_findGenerators_0 : decode cX0_findGenerators 0 = .ok (.aload_n 0, 1) := by decide +kernel
theorem dX0_findGenerators_1 : decode cX0_findGenerators 1 = .ok (.iconst 0, 1) := by decide +kernel
theorem dX0_findGenerators_2 : decode cX0_findGenerators 2 = .ok (.putfield 79, 3) := by decide +kernel
theorem dX0_findGenerators_5 : decode cX0_findGenerators 5 = .ok (.iconst 1, 1) := by decide +kernel
theorem dX0_findGenerators_6 : decode cX0_findGenerators 6 = .ok (.istore_n 1, 1) := by decide +kernel
theorem dX0_findGenerators_7 : decode cX0_findGenerators 7 = .ok (.iload_n 1, 1) := by decide +kernel
theorem dX0_findGenerators_8 : decode cX0_findGenerators 8 = .ok (.aload_n 0, 1) := by decide +kernel
theorem dX0_findGenerators_9 : decode cX0_findGenerators 9 = .ok (.getfield 44, 3) := by decide +kernel
theorem dX0_findGenerators_12 : decode cX0_findGenerators 12 = .ok (.if_icmp .ge 37, 3) := by decide +kernel
theorem dX0_findGenerators_15 : decode cX0_findGenerators 15 = .ok (.aload_n 0, 1) := by decide +kernel
theorem dX0_findGenerators_16 : decode cX0_findGenerators 16 = .ok (.iload_n 1, 1) := by decide +kernel
theorem dX0_findGenerators_17 : decode cX0_findGenerators 17 = .ok (.invokevirtual 82, 3) := by decide +kernel
theorem dX0_findGenerators_20 : decode cX0_findGenerators 20 = .ok (.ifCond .eq 23, 3) := by decide +kernel
theorem dX0_findGenerators_23 : decode cX0_findGenerators 23 = .ok (.aload_n 0, 1) := by decide +kernel
theorem dX0_findGenerators_24 : decode cX0_findGenerators 24 = .ok (.getfield 9, 3) := by decide +kernel
theorem dX0_findGenerators_27 : decode cX0_findGenerators 27 = .ok (.aload_n 0, 1) := by decide +kernel
theorem dX0_findGenerators_28 : decode cX0_findGenerators 28 = .ok (.getfield 79, 3) := by decide +kernel
theorem dX0_findGenerators_31 : decode cX0_findGenerators 31 = .ok (.iload_n 1, 1) := by decide +kernel
theorem dX0_findGenerators_32 : decode cX0_findGenerators 32 = .ok (.iastore, 1) := by decide +kernel
theorem dX0_findGenerators_33 : decode cX0_findGenerators 33 = .ok (.aload_n 0, 1) := by decide +kernel
theorem dX0_findGenerators_34 : decode cX0_findGenerators 34 = .ok (.dup, 1) := by decide +kernel
theorem dX0_findGenerators_35 : decode cX0_findGenerators 35 = .ok (.getfield 79, 3) := by decide +kernel
theorem dX0_findGenerators_38 : decode cX0_findGenerators 38 = .ok (.iconst 1, 1) := by decide +kernel
theorem dX0_findGenerators_39 : decode cX0_findGenerators 39 = .ok (.iadd, 1) := by decide +kernel
theorem dX0_findGenerators_40 : decode cX0_findGenerators 40 = .ok (.putfield 79, 3) := by decide +kernel
theorem dX0_findGenerators_43 : decode cX0_findGenerators 43 = .ok (.iinc 1 1, 3) := by decide +kernel
theorem dX0_findGenerators_46 : decode cX0_findGenerators 46 = .ok (.goto (-39), 3) := by decide +kernel
theorem dX0_findGenerators_49 : decode cX0_findGenerators 49 = .ok (.return_, 1) := by decide +kernel
section
variable {p : Program} {l : Launch} {e : Env} {s : State} {m : MethodId} {args : Array Value} {below : List Frame} {meth : Method} {c : Code} {Q : State → Prop} {G : GG} {A : Nat → Prop} {q : Nat → Nat} {fr : va_W}
def f_X0_findGenerators_L7 (zp : Int32) : Nat → Int32 → (Nat → Int32) → Int32 → Option (Int32 × (Nat → Int32))
  | 0, _, _, _ => none
  | fu + 1, zn, aG, v1 =>
    if zp ≤ v1 then
    some (zn, aG)
    else
    (f_X0_isGenerator zp v1).bind fun z2 =>
    if z2 = 0 then
    f_X0_findGenerators_L7 zp fu zn aG (v1 + 1)
    else
    if inb zn 61 then
    f_X0_findGenerators_L7 zp fu (zn + 1) (upd aG zn.toNatClampNeg v1) (v1 + 1)
    else none
set_option maxHeartbeats 4000000 in
set_option maxRecDepth 100000 in
theorem w_X0_findGenerators_L7  {zp : Int32} {ze : Int32} {zf : Int32} {zg : Int32} {aW : Nat → Int32} {aR : Nat → Int32} {aN : Nat → Int32} {aF : Nat → Int32} {lC : Nat → Int64} {lS : Nat → Int64} {lP : Nat → Int64} {lX : Nat → Int64}   (F : Fx p s m args meth c cX0_findGenerators 2 RX0 none) (hA : ∀ q, s.heap.size ≤ q → A q)   : ∀ (fu : Nat) (zn : Int32) (aG : Nat → Int32) (v1 : Int32) (z : Int32 × (Nat → Int32)), f_X0_findGenerators_L7 zp fu zn aG v1 = some z → Ends p l e (rmOf 1 23) s m args below meth c Q cX0_findGenerators G A none (none) (kW G q zp ze zf zg z.1 z.2 aW aR aN aF lC lS lP lX ++ fr) → ∀ (H : Heap) (locs : List Loc) (ls : Array Slot), Wd G s A (kW G q zp ze zf zg zn aG aW aR aN aF lC lS lP lX ++ fr) H locs → lv_has ls 2 [(0, .ref (q 0)), (1, .int v1)] → W p l e (rmOf 1 23) s m args below meth c H locs 0 0 Q (F0 m 7 ls []) := by
  have hx := F.x
  have hb := F.b
  intro fu
  induction fu with
  | zero =>
    intro zn aG v1 z h
    cases (h : none = some z)
  | succ fu ih =>
    intro zn aG v1 z h hE H locs ls hw hl
    rw [f_X0_findGenerators_L7] at h
    refine lv_iload_n hx hb dX0_findGenerators_7 rfl (lv_at hl 1 rfl) ?_
    refine lv_aload_n hx hb dX0_findGenerators_8 rfl (lv_at hl 0 rfl) ?_
    refine gf_0_44 F hw dX0_findGenerators_9 ?_
    refine lv_icmp_ge (tgt := 49) hx hb dX0_findGenerators_12 (by decide) (fun c1 => ?_) (fun c1 => ?_)
    · replace h := stT c1 h
      obtain rfl := Option.some.inj h
      exact hE H locs _ ls hw dX0_findGenerators_49
    · replace h := stF c1 h
      refine lv_aload_n hx hb dX0_findGenerators_15 rfl (lv_at hl 0 rfl) ?_
      refine lv_iload_n hx hb dX0_findGenerators_16 rfl (lv_at hl 1 rfl) ?_
      obtain ⟨z2, hz2, h⟩ := stB h
      refine ctV (av := [.int v1]) (st0 := ([] : List Value)) (st1 := ([.int z2] : List Value)) F hw hA (k_X0_isGenerator hz2) kl_0_82 kd_X0_isGenerator rfl ⟨by decide, by decide⟩ 0 rfl rfl hl.1 rfl (Nat.le_of_ble_eq_true rfl) dX0_findGenerators_17 rfl (fun H locs hw => ?_)
      refine lv_if_eq (tgt := 43) hx hb dX0_findGenerators_20 (by decide) (fun c3 => ?_) (fun c3 => ?_)
      · replace h := stT c3 h
        refine lv_iinc (v := (v1 + 1)) (lv' := [(1, .int (v1 + 1)), (0, .ref (q 0))]) hx hb dX0_findGenerators_43 hl (k := 1) rfl rfl (by decide) rfl (fun ls hl => ?_)
        refine lv_goto (tgt := 7) hx hb dX0_findGenerators_46 (by decide) ?_
        exact ih _ _ _ z h hE H locs ls hw (lv_sub hl [1, 0] rfl)
      · replace h := stF c3 h
        refine lv_aload_n hx hb dX0_findGenerators_23 rfl (lv_at hl 0 rfl) ?_
        refine gf_0_9 F hw dX0_findGenerators_24 ?_
        refine lv_aload_n hx hb dX0_findGenerators_27 rfl (lv_at hl 0 rfl) ?_
        refine gf_0_79 F hw dX0_findGenerators_28 ?_
        refine lv_iload_n hx hb dX0_findGenerators_31 rfl (lv_at hl 1 rfl) ?_
        obtain ⟨g4, h⟩ := stG h
        refine as_c1 F hw g4 dX0_findGenerators_32 (fun H locs hw => ?_)
        refine lv_aload_n hx hb dX0_findGenerators_33 rfl (lv_at hl 0 rfl) ?_
        refine lv_dup hx hb dX0_findGenerators_34 rfl ?_
        refine gf_0_79 F hw dX0_findGenerators_35 ?_
        refine lv_iconst (v := 1) hx hb dX0_findGenerators_38 (by decide) ?_
        refine lv_iadd hx hb dX0_findGenerators_39 ?_
        refine pf_0_79 F hw dX0_findGenerators_40 (fun H locs hw => ?_)
        refine lv_iinc (v := (v1 + 1)) (lv' := [(1, .int (v1 + 1)), (0, .ref (q 0))]) hx hb dX0_findGenerators_43 hl (k := 1) rfl rfl (by decide) rfl (fun ls hl => ?_)
        refine lv_goto (tgt := 7) hx hb dX0_findGenerators_46 (by decide) ?_
        exact ih _ _ _ z h hE H locs ls hw (lv_sub hl [1, 0] rfl)
def f_X0_findGenerators (zp : Int32) (zn : Int32) (aG : Nat → Int32) : Option (Int32 × (Nat → Int32)) :=
  f_X0_findGenerators_L7 zp FU 0 aG 1
set_option maxHeartbeats 4000000 in
set_option maxRecDepth 100000 in
theorem k_X0_findGenerators {l : Launch} {G : GG} {q : Nat → Nat} {fr : va_W}  {zp : Int32} {ze : Int32} {zf : Int32} {zg : Int32} {zn : Int32} {aG : Nat → Int32} {aW : Nat → Int32} {aR : Nat → Int32} {aN : Nat → Int32} {aF : Nat → Int32} {lC : Nat → Int64} {lS : Nat → Int64} {lP : Nat → Int64} {lX : Nat → Int64}  {z : Int32 × (Nat → Int32)}  (h : f_X0_findGenerators zp zn aG = some z) : Ct l G yX0_findGenerators cX0_findGenerators 2 none 1 23 [.ref (q 0)] (kW G q zp ze zf zg zn aG aW aR aN aF lC lS lP lX ++ fr) (none) (kW G q zp ze zf zg z.1 z.2 aW aR aN aF lC lS lP lX ++ fr) := by
  refine Ct.of (by decide +kernel) (Nat.le_of_ble_eq_true rfl) trivial ?_
  intro p e s m args below meth c Q A ls F hw hA hE hl
  have hx := F.x
  have hb := F.b
  unfold f_X0_findGenerators at h
  obtain ⟨H, hH⟩ : ∃ H, H = s.heap := ⟨_, rfl⟩
  obtain ⟨locs, hlo⟩ : ∃ locs : List Loc, locs = [] := ⟨_, rfl⟩
  rw [← hH, ← hlo] at hw ⊢
  have hl : lv_has ls 2 [(0, .ref (q 0))] := hl
  refine lv_aload_n hx hb dX0_findGenerators_0 rfl (lv_at hl 0 rfl) ?_
  refine lv_iconst (v := 0) hx hb dX0_findGenerators_1 (by decide) ?_
  refine pf_0_79 F hw dX0_findGenerators_2 (fun H locs hw => ?_)
  refine lv_iconst (v := 1) hx hb dX0_findGenerators_5 (by decide) ?_
  refine lv_istore_n (lv' := [(1, .int 1), (0, .ref (q 0))]) hx hb dX0_findGenerators_6 rfl hl (by decide) rfl (fun ls hl => ?_)
  exact w_X0_findGenerators_L7 F hA  FU _ _ _ z h hE H locs ls hw (lv_sub hl [1, 0] rfl)
end
theorem dX0_findRaised_0 : decode cX0_findRaised 0 = .ok (.iconst 0, 1) := by decide +kernel
theorem dX0_findRaised_1 : decode cX0_findRaised 1 = .ok (.istore_n 1, 1) := by decide +kernel
theorem dX0_findRaised_2 : decode cX0_findRaised 2 = .ok (.iload_n 1, 1) := by decide +kernel
theorem dX0_findRaised_3 : decode cX0_findRaised 3 = .ok (.aload_n 0, 1) := by decide +kernel
theorem dX0_findRaised_4 : decode cX0_findRaised 4 = .ok (.getfield 44, 3) := by decide +kernel
theorem dX0_findRaised_7 : decode cX0_findRaised 7 = .ok (.if_icmp .ge 43, 3) := by decide +kernel
theorem dX0_findRaised_10 : decode cX0_findRaised 10 = .ok (.iconst 1, 1) := by decide +kernel
theorem dX0_findRaised_11 : decode cX0_findRaised 11 = .ok (.istore_n 2, 1) := by decide +kernel
theorem dX0_findRaised_12 : decode cX0_findRaised 12 = .ok (.iconst 0, 1) := by decide +kernel
theorem dX0_findRaised_13 : decode cX0_findRaised 13 = .ok (.istore_n 3, 1) := by decide +kernel
theorem dX0_findRaised_14 : decode cX0_findRaised 14 = .ok (.iload_n 3, 1) := by decide +kernel
theorem dX0_findRaised_15 : decode cX0_findRaised 15 = .ok (.aload_n 0, 1) := by decide +kernel
theorem dX0_findRaised_16 : decode cX0_findRaised 16 = .ok (.getfield 48, 3) := by decide +kernel
theorem dX0_findRaised_19 : decode cX0_findRaised 19 = .ok (.if_icmp .ge 18, 3) := by decide +kernel
theorem dX0_findRaised_22 : decode cX0_findRaised 22 = .ok (.iload_n 2, 1) := by decide +kernel
theorem dX0_findRaised_23 : decode cX0_findRaised 23 = .ok (.iload_n 1, 1) := by decide +kernel
theorem dX0_findRaised_24 : decode cX0_findRaised 24 = .ok (.imul, 1) := by decide +kernel
theorem dX0_findRaised_25 : decode cX0_findRaised 25 = .ok (.aload_n 0, 1) := by decide +kernel
theorem dX0_findRaised_26 : decode cX0_findRaised 26 = .ok (.getfield 44, 3) := by decide +kernel
theorem dX0_findRaised_29 : decode cX0_findRaised 29 = .ok (.irem, 1) := by decide +kernel
theorem dX0_findRaised_30 : decode cX0_findRaised 30 = .ok (.istore_n 2, 1) := by decide +kernel
theorem dX0_findRaised_31 : decode cX0_findRaised 31 = .ok (.iinc 3 1, 3) := by decide +kernel
theorem dX0_findRaised_34 : decode cX0_findRaised 34 = .ok (.goto (-20), 3) := by decide +kernel
theorem dX0_findRaised_37 : decode cX0_findRaised 37 = .ok (.aload_n 0, 1) := by decide +kernel
theorem dX0_findRaised_38 : decode cX0_findRaised 38 = .ok (.getfield 18, 3) := by decide +kernel
theorem dX0_findRaised_41 : decode cX0_findRaised 41 = .ok (.iload_n 1, 1) := by decide +kernel
theorem dX0_findRaised_42 : decode cX0_findRaised 42 = .ok (.iload_n 2, 1) := by decide +kernel
theorem dX0_findRaised_43 : decode cX0_findRaised 43 = .ok (.iastore, 1) := by decide +kernel
theorem dX0_findRaised_44 : decode cX0_findRaised 44 = .ok (.iinc 1 1, 3) := by decide +kernel
theorem dX0_findRaised_47 : decode cX0_findRaised 47 = .ok (.goto (-45), 3) := by decide +kernel
theorem dX0_findRaised_50 : decode cX0_findRaised 50 = .ok (.return_, 1) := by decide +kernel
section
variable {p : Program} {l : Launch} {e : Env} {s : State} {m : MethodId} {args : Array Value} {below : List Frame} {meth : Method} {c : Code} {Q : State → Prop} {G : GG} {A : Nat → Prop} {q : Nat → Nat} {fr : va_W}
def f_X0_findRaised_L14 (zp : Int32) (ze : Int32) (KK : (Nat → Int32) → Int32 → Option ((Nat → Int32))) : Nat → (Nat → Int32) → Int32 → Int32 → Int32 → Option ((Nat → Int32))
  | 0, _, _, _, _ => none
  | fu + 1, aR, v1, v2, v3 =>
    if ze ≤ v3 then
    if inb v1 61 then
    KK (upd aR v1.toNatClampNeg v2) (v1 + 1)
    else none
    else
    if zp = 0 then none else
    f_X0_findRaised_L14 zp ze KK fu aR v1 ((v2 * v1) - (v2 * v1) / zp * zp) (v3 + 1)
set_option maxHeartbeats 4000000 in
set_option maxRecDepth 100000 in
theorem w_X0_findRaised_L14  {zp : Int32} {ze : Int32} {zf : Int32} {zg : Int32} {zn : Int32} {aG : Nat → Int32} {aW : Nat → Int32} {aN : Nat → Int32} {aF : Nat → Int32} {lC : Nat → Int64} {lS : Nat → Int64} {lP : Nat → Int64} {lX : Nat → Int64}  {KK : (Nat → Int32) → Int32 → Option ((Nat → Int32))} (F : Fx p s m args meth c cX0_findRaised 4 RX0 none) (hA : ∀ q, s.heap.size ≤ q → A q)  (hK : ∀ (aR : Nat → Int32) (v1 : Int32) (z : (Nat → Int32)), KK aR v1 = some z → Ends p l e (rmOf 0 0) s m args below meth c Q cX0_findRaised G A none (none) (kW G q zp ze zf zg zn aG aW z aN aF lC lS lP lX ++ fr) → ∀ (H : Heap) (locs : List Loc) (ls : Array Slot), Wd G s A (kW G q zp ze zf zg zn aG aW aR aN aF lC lS lP lX ++ fr) H locs → lv_has ls 4 [(0, .ref (q 0)), (1, .int v1)] → W p l e (rmOf 0 0) s m args below meth c H locs 0 0 Q (F0 m 2 ls [])) : ∀ (fu : Nat) (aR : Nat → Int32) (v1 : Int32) (v2 : Int32) (v3 : Int32) (z : (Nat → Int32)), f_X0_findRaised_L14 zp ze KK fu aR v1 v2 v3 = some z → Ends p l e (rmOf 0 0) s m args below meth c Q cX0_findRaised G A none (none) (kW G q zp ze zf zg zn aG aW z aN aF lC lS lP lX ++ fr) → ∀ (H : Heap) (locs : List Loc) (ls : Array Slot), Wd G s A (kW G q zp ze zf zg zn aG aW aR aN aF lC lS lP lX ++ fr) H locs → lv_has ls 4 [(0, .ref (q 0)), (1, .int v1), (2, .int v2), (3, .int v3)] → W p l e (rmOf 0 0) s m args below meth c H locs 0 0 Q (F0 m 14 ls []) := by
  have hx := F.x
  have hb := F.b
  intro fu
  induction fu with
  | zero =>
    intro aR v1 v2 v3 z h
    cases (h : none = some z)
  | succ fu ih =>
    intro aR v1 v2 v3 z h hE H locs ls hw hl
    rw [f_X0_findRaised_L14] at h
    refine lv_iload_n hx hb dX0_findRaised_14 rfl (lv_at hl 3 rfl) ?_
    refine lv_aload_n hx hb dX0_findRaised_15 rfl (lv_at hl 0 rfl) ?_
    refine gf_0_48 F hw dX0_findRaised_16 ?_
    refine lv_icmp_ge (tgt := 37) hx hb dX0_findRaised_19 (by decide) (fun c1 => ?_) (fun c1 => ?_)
    · replace h := stT c1 h
      refine lv_aload_n hx hb dX0_findRaised_37 rfl (lv_at hl 0 rfl) ?_
      refine gf_0_18 F hw dX0_findRaised_38 ?_
      refine lv_iload_n hx hb dX0_findRaised_41 rfl (lv_at hl 1 rfl) ?_
      refine lv_iload_n hx hb dX0_findRaised_42 rfl (lv_at hl 2 rfl) ?_
      obtain ⟨g2, h⟩ := stG h
      refine as_c3 F hw g2 dX0_findRaised_43 (fun H locs hw => ?_)
      refine lv_iinc (v := (v1 + 1)) (lv' := [(1, .int (v1 + 1)), (0, .ref (q 0)), (2, .int v2), (3, .int v3)]) hx hb dX0_findRaised_44 hl (k := 1) rfl rfl (by decide) rfl (fun ls hl => ?_)
      refine lv_goto (tgt := 2) hx hb dX0_findRaised_47 (by decide) ?_
      exact hK _ _ z h hE H locs ls hw (lv_sub hl [1, 0] rfl)
    · replace h := stF c1 h
      refine lv_iload_n hx hb dX0_findRaised_22 rfl (lv_at hl 2 rfl) ?_
      refine lv_iload_n hx hb dX0_findRaised_23 rfl (lv_at hl 1 rfl) ?_
      refine lv_imul hx hb dX0_findRaised_24 ?_
      refine lv_aload_n hx hb dX0_findRaised_25 rfl (lv_at hl 0 rfl) ?_
      refine gf_0_44 F hw dX0_findRaised_26 ?_
      obtain ⟨g3, h⟩ := stD h
      refine lv_irem hx hb dX0_findRaised_29 g3 ?_
      refine lv_istore_n (lv' := [(2, .int ((v2 * v1) - (v2 * v1) / zp * zp)), (0, .ref (q 0)), (1, .int v1), (3, .int v3)]) hx hb dX0_findRaised_30 rfl hl (by decide) rfl (fun ls hl => ?_)
      refine lv_iinc (v := (v3 + 1)) (lv' := [(3, .int (v3 + 1)), (2, .int ((v2 * v1) - (v2 * v1) / zp * zp)), (0, .ref (q 0)), (1, .int v1)]) hx hb dX0_findRaised_31 hl (k := 3) rfl rfl (by decide) rfl (fun ls hl => ?_)
      refine lv_goto (tgt := 14) hx hb dX0_findRaised_34 (by decide) ?_
      exact ih _ _ _ _ z h hE H locs ls hw (lv_sub hl [2, 3, 1, 0] rfl)
def f_X0_findRaised_L2 (zp : Int32) (ze : Int32) : Nat → (Nat → Int32) → Int32 → Option ((Nat → Int32))
  | 0, _, _ => none
  | fu + 1, aR, v1 =>
    if zp ≤ v1 then
    some aR
    else
    f_X0_findRaised_L14 zp ze (fun w0 w1 => f_X0_findRaised_L2 zp ze fu w0 w1) FU aR v1 1 0
set_option maxHeartbeats 4000000 in
set_option maxRecDepth 100000 in
theorem w_X0_findRaised_L2  {zp : Int32} {ze : Int32} {zf : Int32} {zg : Int32} {zn : Int32} {aG : Nat → Int32} {aW : Nat → Int32} {aN : Nat → Int32} {aF : Nat → Int32} {lC : Nat → Int64} {lS : Nat → Int64} {lP : Nat → Int64} {lX : Nat → Int64}   (F : Fx p s m args meth c cX0_findRaised 4 RX0 none) (hA : ∀ q, s.heap.size ≤ q → A q)   : ∀ (fu : Nat) (aR : Nat → Int32) (v1 : Int32) (z : (Nat → Int32)), f_X0_findRaised_L2 zp ze fu aR v1 = some z → Ends p l e (rmOf 0 0) s m args below meth c Q cX0_findRaised G A none (none) (kW G q zp ze zf zg zn aG aW z aN aF lC lS lP lX ++ fr) → ∀ (H : Heap) (locs : List Loc) (ls : Array Slot), Wd G s A (kW G q zp ze zf zg zn aG aW aR aN aF lC lS lP lX ++ fr) H locs → lv_has ls 4 [(0, .ref (q 0)), (1, .int v1)] → W p l e (rmOf 0 0) s m args below meth c H locs 0 0 Q (F0 m 2 ls []) := by
  have hx := F.x
  have hb := F.b
  intro fu
  induction fu with
  | zero =>
    intro aR v1 z h
    cases (h : none = some z)
  | succ fu ih =>
    intro aR v1 z h hE H locs ls hw hl
    rw [f_X0_findRaised_L2] at h
    refine lv_iload_n hx hb dX0_findRaised_2 rfl (lv_at hl 1 rfl) ?_
    refine lv_aload_n hx hb dX0_findRaised_3 rfl (lv_at hl 0 rfl) ?_
    refine gf_0_44 F hw dX0_findRaised_4 ?_
    refine lv_icmp_ge (tgt := 50) hx hb dX0_findRaised_7 (by decide) (fun c1 => ?_) (fun c1 => ?_)
    · replace h := stT c1 h
      obtain rfl := Option.some.inj h
      exact hE H locs _ ls hw dX0_findRaised_50
    · replace h := stF c1 h
      refine lv_iconst (v := 1) hx hb dX0_findRaised_10 (by decide) ?_
      refine lv_istore_n (lv' := [(2, .int 1), (0, .ref (q 0)), (1, .int v1)]) hx hb dX0_findRaised_11 rfl hl (by decide) rfl (fun ls hl => ?_)
      refine lv_iconst (v := 0) hx hb dX0_findRaised_12 (by decide) ?_
      refine lv_istore_n (lv' := [(3, .int 0), (2, .int 1), (0, .ref (q 0)), (1, .int v1)]) hx hb dX0_findRaised_13 rfl hl (by decide) rfl (fun ls hl => ?_)
      exact w_X0_findRaised_L14 F hA  (fun w0 w1 z h hE H locs ls hw hl => ih w0 w1 z h hE H locs ls hw hl) FU _ _ _ _ z h hE H locs ls hw (lv_sub hl [2, 3, 1, 0] rfl)
def f_X0_findRaised (zp : Int32) (ze : Int32) (aR : Nat → Int32) : Option ((Nat → Int32)) :=
  f_X0_findRaised_L2 zp ze FU aR 0
set_option maxHeartbeats 4000000 in
set_option maxRecDepth 100000 in
theorem k_X0_findRaised {l : Launch} {G : GG} {q : Nat → Nat} {fr : va_W}  {zp : Int32} {ze : Int32} {zf : Int32} {zg : Int32} {zn : Int32} {aG : Nat → Int32} {aW : Nat → Int32} {aR : Nat → Int32} {aN : Nat → Int32} {aF : Nat → Int32} {lC : Nat → Int64} {lS : Nat → Int64} {lP : Nat → Int64} {lX : Nat → Int64}  {z : (Nat → Int32)}  (h : f_X0_findRaised zp ze aR = some z) : Ct l G yX0_findRaised cX0_findRaised 4 none 0 0 [.ref (q 0)] (kW G q zp ze zf zg zn aG aW aR aN aF lC lS lP lX ++ fr) (none) (kW G q zp ze zf zg zn aG aW z aN aF lC lS lP lX ++ fr) := by
  refine Ct.of (by decide +kernel) (Nat.le_of_ble_eq_true rfl) trivial ?_
  intro p e s m args below meth c Q A ls F hw hA hE hl
  have hx := F.x
  have hb := F.b
  unfold f_X0_findRaised at h
  obtain ⟨H, hH⟩ : ∃ H, H = s.heap := ⟨_, rfl⟩
  obtain ⟨locs, hlo⟩ : ∃ locs : List Loc, locs = [] := ⟨_, rfl⟩
  rw [← hH, ← hlo] at hw ⊢
  have hl : lv_has ls 4 [(0, .ref (q 0))] := hl
  refine lv_iconst (v := 0) hx hb dX0_findRaised_0 (by decide) ?_
  refine lv_istore_n (lv' := [(1, .int 0), (0, .ref (q 0))]) hx hb dX0_findRaised_1 rfl hl (by decide) rfl (fun ls hl => ?_)
  exact w_X0_findRaised_L2 F hA  FU _ _ z h hE H locs ls hw (lv_sub hl [1, 0] rfl)
end
theorem dX0_findPowers_0 : decode cX0_findPowers 0 = .ok (.iconst 1, 1) := by decide +kernel
theorem dX0_findPowers_1 : decode cX0_findPowers 1 = .ok (.istore_n 1, 1) := by decide +kernel
theorem dX0_findPowers_2 : decode cX0_findPowers 2 = .ok (.iconst 0, 1) := by decide +kernel
theorem dX0_findPowers_3 : decode cX0_findPowers 3 = .ok (.istore_n 2, 1) := by decide +kernel
theorem dX0_findPowers_4 : decode cX0_findPowers 4 = .ok (.iload_n 2, 1) := by decide +kernel
theorem dX0_findPowers_5 : decode cX0_findPowers 5 = .ok (.aload_n 0, 1) := by decide +kernel
theorem dX0_findPowers_6 : decode cX0_findPowers 6 = .ok (.getfield 44, 3) := by decide +kernel
theorem dX0_findPowers_9 : decode cX0_findPowers 9 = .ok (.iconst 1, 1) := by decide +kernel
theorem dX0_findPowers_10 : decode cX0_findPowers 10 = .ok (.isub, 1) := by decide +kernel
theorem dX0_findPowers_11 : decode cX0_findPowers 11 = .ok (.if_icmp .ge 28, 3) := by decide +kernel
theorem dX0_findPowers_14 : decode cX0_findPowers 14 = .ok (.aload_n 0, 1) := by decide +kernel
theorem dX0_findPowers_15 : decode cX0_findPowers 15 = .ok (.getfield 15, 3) := by decide +kernel
theorem dX0_findPowers_18 : decode cX0_findPowers 18 = .ok (.iload_n 1, 1) := by decide +kernel
theorem dX0_findPowers_19 : decode cX0_findPowers 19 = .ok (.iload_n 2, 1) := by decide +kernel
theorem dX0_findPowers_20 : decode cX0_findPowers 20 = .ok (.iastore, 1) := by decide +kernel
theorem dX0_findPowers_21 : decode cX0_findPowers 21 = .ok (.iload_n 1, 1) := by decide +kernel
theorem dX0_findPowers_22 : decode cX0_findPowers 22 = .ok (.aload_n 0, 1) := by decide +kernel
theorem dX0_findPowers_23 : decode cX0_findPowers 23 = .ok (.getfield 67, 3) := by decide +kernel
theorem dX0_findPowers_26 : decode cX0_findPowers 26 = .ok (.imul, 1) := by decide +kernel
theorem dX0_findPowers_27 : decode cX0_findPowers 27 = .ok (.aload_n 0, 1) := by decide +kernel
theorem dX0_findPowers_28 : decode cX0_findPowers 28 = .ok (.getfield 44, 3) := by decide +kernel
theorem dX0_findPowers_31 : decode cX0_findPowers 31 = .ok (.irem, 1) := by decide +kernel
theorem dX0_findPowers_32 : decode cX0_findPowers 32 = .ok (.istore_n 1, 1) := by decide +kernel
theorem dX0_findPowers_33 : decode cX0_findPowers 33 = .ok (.iinc 2 1, 3) := by decide +kernel
theorem dX0_findPowers_36 : decode cX0_findPowers 36 = .ok (.goto (-32), 3) := by decide +kernel
theorem dX0_findPowers_39 : decode cX0_findPowers 39 = .ok (.return_, 1) := by decide +kernel
section
variable {p : Program} {l : Launch} {e : Env} {s : State} {m : MethodId} {args : Array Value} {below : List Frame} {meth : Method} {c : Code} {Q : State → Prop} {G : GG} {A : Nat → Prop} {q : Nat → Nat} {fr : va_W}
def f_X0_findPowers_L4 (zp : Int32) (zg : Int32) : Nat → (Nat → Int32) → Int32 → Int32 → Option ((Nat → Int32))
  | 0, _, _, _ => none
  | fu + 1, aW, v1, v2 =>
    if (zp - 1) ≤ v2 then
    some aW
    else
    if inb v1 61 then
    if zp = 0 then none else
    f_X0_findPowers_L4 zp zg fu (upd aW v1.toNatClampNeg v2) ((v1 * zg) - (v1 * zg) / zp * zp) (v2 + 1)
    else none
set_option maxHeartbeats 4000000 in
set_option maxRecDepth 100000 in
theorem w_X0_findPowers_L4  {zp : Int32} {ze : Int32} {zf : Int32} {zg : Int32} {zn : Int32} {aG : Nat → Int32} {aR : Nat → Int32} {aN : Nat → Int32} {aF : Nat → Int32} {lC : Nat → Int64} {lS : Nat → Int64} {lP : Nat → Int64} {lX : Nat → Int64}   (F : Fx p s m args meth c cX0_findPowers 3 RX0 none) (hA : ∀ q, s.heap.size ≤ q → A q)   : ∀ (fu : Nat) (aW : Nat → Int32) (v1 : Int32) (v2 : Int32) (z : (Nat → Int32)), f_X0_findPowers_L4 zp zg fu aW v1 v2 = some z → Ends p l e (rmOf 0 0) s m args below meth c Q cX0_findPowers G A none (none) (kW G q zp ze zf zg zn aG z aR aN aF lC lS lP lX ++ fr) → ∀ (H : Heap) (locs : List Loc) (ls : Array Slot), Wd G s A (kW G q zp ze zf zg zn aG aW aR aN aF lC lS lP lX ++ fr) H locs → lv_has ls 3 [(0, .ref (q 0)), (1, .int v1), (2, .int v2)] → W p l e (rmOf 0 0) s m args below meth c H locs 0 0 Q (F0 m 4 ls []) := by
  have hx := F.x
  have hb := F.b
  intro fu
  induction fu with
  | zero =>
    intro aW v1 v2 z h
    cases (h : none = some z)
  | succ fu ih =>
    intro aW v1 v2 z h hE H locs ls hw hl
    rw [f_X0_findPowers_L4] at h
    refine lv_iload_n hx hb dX0_findPowers_4 rfl (lv_at hl 2 rfl) ?_
    refine lv_aload_n hx hb dX0_findPowers_5 rfl (lv_at hl 0 rfl) ?_
    refine gf_0_44 F hw dX0_findPowers_6 ?_
    refine lv_iconst (v := 1) hx hb dX0_findPowers_9 (by decide) ?_
    refine lv_isub hx hb dX0_findPowers_10 ?_
    refine lv_icmp_ge (tgt := 39) hx hb dX0_findPowers_11 (by decide) (fun c1 => ?_) (fun c1 => ?_)
    · replace h := stT c1 h
      obtain rfl := Option.some.inj h
      exact hE H locs _ ls hw dX0_findPowers_39
    · replace h := stF c1 h
      refine lv_aload_n hx hb dX0_findPowers_14 rfl (lv_at hl 0 rfl) ?_
      refine gf_0_15 F hw dX0_findPowers_15 ?_
      refine lv_iload_n hx hb dX0_findPowers_18 rfl (lv_at hl 1 rfl) ?_
      refine lv_iload_n hx hb dX0_findPowers_19 rfl (lv_at hl 2 rfl) ?_
      obtain ⟨g2, h⟩ := stG h
      refine as_c2 F hw g2 dX0_findPowers_20 (fun H locs hw => ?_)
      refine lv_iload_n hx hb dX0_findPowers_21 rfl (lv_at hl 1 rfl) ?_
      refine lv_aload_n hx hb dX0_findPowers_22 rfl (lv_at hl 0 rfl) ?_
      refine gf_0_67 F hw dX0_findPowers_23 ?_
      refine lv_imul hx hb dX0_findPowers_26 ?_
      refine lv_aload_n hx hb dX0_findPowers_27 rfl (lv_at hl 0 rfl) ?_
      refine gf_0_44 F hw dX0_findPowers_28 ?_
      obtain ⟨g3, h⟩ := stD h
      refine lv_irem hx hb dX0_findPowers_31 g3 ?_
      refine lv_istore_n (lv' := [(1, .int ((v1 * zg) - (v1 * zg) / zp * zp)), (0, .ref (q 0)), (2, .int v2)]) hx hb dX0_findPowers_32 rfl hl (by decide) rfl (fun ls hl => ?_)
      refine lv_iinc (v := (v2 + 1)) (lv' := [(2, .int (v2 + 1)), (1, .int ((v1 * zg) - (v1 * zg) / zp * zp)), (0, .ref (q 0))]) hx hb dX0_findPowers_33 hl (k := 2) rfl rfl (by decide) rfl (fun ls hl => ?_)
      refine lv_goto (tgt := 4) hx hb dX0_findPowers_36 (by decide) ?_
      exact ih _ _ _ z h hE H locs ls hw (lv_sub hl [2, 1, 0] rfl)
def f_X0_findPowers (zp : Int32) (zg : Int32) (aW : Nat → Int32) : Option ((Nat → Int32)) :=
  f_X0_findPowers_L4 zp zg FU aW 1 0
set_option maxHeartbeats 4000000 in
set_option maxRecDepth 100000 in
theorem k_X0_findPowers {l : Launch} {G : GG} {q : Nat → Nat} {fr : va_W}  {zp : Int32} {ze : Int32} {zf : Int32} {zg : Int32} {zn : Int32} {aG : Nat → Int32} {aW : Nat → Int32} {aR : Nat → Int32} {aN : Nat → Int32} {aF : Nat → Int32} {lC : Nat → Int64} {lS : Nat → Int64} {lP : Nat → Int64} {lX : Nat → Int64}  {z : (Nat → Int32)}  (h : f_X0_findPowers zp zg aW = some z) : Ct l G yX0_findPowers cX0_findPowers 3 none 0 0 [.ref (q 0)] (kW G q zp ze zf zg zn aG aW aR aN aF lC lS lP lX ++ fr) (none) (kW G q zp ze zf zg zn aG z aR aN aF lC lS lP lX ++ fr) := by
  refine Ct.of (by decide +kernel) (Nat.le_of_ble_eq_true rfl) trivial ?_
  intro p e s m args below meth c Q A ls F hw hA hE hl
  have hx := F.x
  have hb := F.b
  unfold f_X0_findPowers at h
  obtain ⟨H, hH⟩ : ∃ H, H = s.heap := ⟨_, rfl⟩
  obtain ⟨locs, hlo⟩ : ∃ locs : List Loc, locs = [] := ⟨_, rfl⟩
  rw [← hH, ← hlo] at hw ⊢
  have hl : lv_has ls 3 [(0, .ref (q 0))] := hl
  refine lv_iconst (v := 1) hx hb dX0_findPowers_0 (by decide) ?_
  refine lv_istore_n (lv' := [(1, .int 1), (0, .ref (q 0))]) hx hb dX0_findPowers_1 rfl hl (by decide) rfl (fun ls hl => ?_)
  refine lv_iconst (v := 0) hx hb dX0_findPowers_2 (by decide) ?_
  refine lv_istore_n (lv' := [(2, .int 0), (1, .int 1), (0, .ref (q 0))]) hx hb dX0_findPowers_3 rfl hl (by decide) rfl (fun ls hl => ?_)
  exact w_X0_findPowers_L4 F hA  FU _ _ _ z h hE H locs ls hw (lv_sub hl [2, 1, 0] rfl)
end
theorem dX0_classNumber_0 : decode cX0_classNumber 0 = .ok (.aload_n 0, 1) := by decide +kernel
theorem dX0_classNumber_1 : decode cX0_classNumber 1 = .ok (.getfield 15, 3) := by decide +kernel
theorem dX0_classNumber_4 : decode cX0_classNumber 4 = .ok (.iload_n 1, 1) := by decide +kernel
theorem dX0_classNumber_5 : decode cX0_classNumber 5 = .ok (.iaload, 1) := by decide +kernel
theorem dX0_classNumber_6 : decode cX0_classNumber 6 = .ok (.aload_n 0, 1) := by decide +kernel
theorem dX0_classNumber_7 : decode cX0_classNumber 7 = .ok (.getfield 48, 3) := by decide +kernel
theorem dX0_classNumber_10 : decode cX0_classNumber 10 = .ok (.irem, 1) := by decide +kernel
theorem dX0_classNumber_11 : decode cX0_classNumber 11 = .ok (.ireturn, 1) := by decide +kernel
section
variable {p : Program} {l : Launch} {e : Env} {s : State} {m : MethodId} {args : Array Value} {below : List Frame} {meth : Method} {c : Code} {Q : State → Prop} {G : GG} {A : Nat → Prop} {q : Nat → Nat} {fr : va_W}
def f_X0_classNumber (ze : Int32) (aW : Nat → Int32) (v1 : Int32) : Option (Int32) :=
  if inb v1 61 then
  if ze = 0 then none else
  some ((aW v1.toNatClampNeg) - (aW v1.toNatClampNeg) / ze * ze)
  else none
set_option maxHeartbeats 4000000 in
set_option maxRecDepth 100000 in
theorem k_X0_classNumber {l : Launch} {G : GG} {q : Nat → Nat} {fr : va_W}  {zp : Int32} {ze : Int32} {zf : Int32} {zg : Int32} {zn : Int32} {aG : Nat → Int32} {aW : Nat → Int32} {aR : Nat → Int32} {aN : Nat → Int32} {aF : Nat → Int32} {lC : Nat → Int64} {lS : Nat → Int64} {lP : Nat → Int64} {lX : Nat → Int64} {v1 : Int32} {z : Int32}  (h : f_X0_classNumber ze aW v1 = some z) : Ct l G yX0_classNumber cX0_classNumber 2 (some .int) 0 0 [.ref (q 0), .int v1] (kW G q zp ze zf zg zn aG aW aR aN aF lC lS lP lX ++ fr) (some (.int z)) (kW G q zp ze zf zg zn aG aW aR aN aF lC lS lP lX ++ fr) := by
  refine Ct.of (by decide +kernel) (Nat.le_of_ble_eq_true rfl) trivial ?_
  intro p e s m args below meth c Q A ls F hw hA hE hl
  have hx := F.x
  have hb := F.b
  unfold f_X0_classNumber at h
  obtain ⟨H, hH⟩ : ∃ H, H = s.heap := ⟨_, rfl⟩
  obtain ⟨locs, hlo⟩ : ∃ locs : List Loc, locs = [] := ⟨_, rfl⟩
  rw [← hH, ← hlo] at hw ⊢
  have hl : lv_has ls 2 [(0, .ref (q 0)), (1, .int v1)] := hl
  refine lv_aload_n hx hb dX0_classNumber_0 rfl (lv_at hl 0 rfl) ?_
  refine gf_0_15 F hw dX0_classNumber_1 ?_
  refine lv_iload_n hx hb dX0_classNumber_4 rfl (lv_at hl 1 rfl) ?_
  obtain ⟨g1, h⟩ := stG h
  refine al_c2 F hw g1 dX0_classNumber_5 ?_
  refine lv_aload_n hx hb dX0_classNumber_6 rfl (lv_at hl 0 rfl) ?_
  refine gf_0_48 F hw dX0_classNumber_7 ?_
  obtain ⟨g2, h⟩ := stD h
  refine lv_irem hx hb dX0_classNumber_10 g2 ?_
  obtain rfl := Option.some.inj h
  exact hE H locs _ ls hw dX0_classNumber_11
end
theorem dX0_findNeighbours_0 : decode cX0_findNeighbours 0 = .ok (.iconst 0, 1) := by decide +kernel
theorem dX0_findNeighbours_1 : decode cX0_findNeighbours 1 = .ok (.istore_n 1, 1) := by decide +kernel
theorem dX0_findNeighbours_2 : decode cX0_findNeighbours 2 = .ok (.iload_n 1, 1) := by decide +kernel
theorem dX0_findNeighbours_3 : decode cX0_findNeighbours 3 = .ok (.aload_n 0, 1) := by decide +kernel
theorem dX0_findNeighbours_4 : decode cX0_findNeighbours 4 = .ok (.getfield 21, 3) := by decide +kernel
theorem dX0_findNeighbours_7 : decode cX0_findNeighbours 7 = .ok (.arraylength, 1) := by decide +kernel
theorem dX0_findNeighbours_8 : decode cX0_findNeighbours 8 = .ok (.if_icmp .ge 16, 3) := by decide +kernel
theorem dX0_findNeighbours_11 : decode cX0_findNeighbours 11 = .ok (.aload_n 0, 1) := by decide +kernel
theorem dX0_findNeighbours_12 : decode cX0_findNeighbours 12 = .ok (.getfield 21, 3) := by decide +kernel
theorem dX0_findNeighbours_15 : decode cX0_findNeighbours 15 = .ok (.iload_n 1, 1) := by decide +kernel
theorem dX0_findNeighbours_16 : decode cX0_findNeighbours 16 = .ok (.iconst 0, 1) := by decide +kernel
theorem dX0_findNeighbours_17 : decode cX0_findNeighbours 17 = .ok (.iastore, 1) := by decide +kernel
theorem dX0_findNeighbours_18 : decode cX0_findNeighbours 18 = .ok (.iinc 1 1, 3) := by decide +kernel
theorem dX0_findNeighbours_21 : decode cX0_findNeighbours 21 = .ok (.goto (-19), 3) := by decide +kernel
theorem dX0_findNeighbours_24 : decode cX0_findNeighbours 24 = .ok (.iconst 1, 1) := by decide +kernel
theorem dX0_findNeighbours_25 : decode cX0_findNeighbours 25 = .ok (.istore_n 1, 1) := by decide +kernel
theorem dX0_findNeighbours_26 : decode cX0_findNeighbours 26 = .ok (.iload_n 1, 1) := by decide +kernel
theorem dX0_findNeighbours_27 : decode cX0_findNeighbours 27 = .ok (.iconst 1, 1) := by decide +kernel
theorem dX0_findNeighbours_28 : decode cX0_findNeighbours 28 = .ok (.iadd, 1) := by decide +kernel
theorem dX0_findNeighbours_29 : decode cX0_findNeighbours 29 = .ok (.aload_n 0, 1) := by decide +kernel
theorem dX0_findNeighbours_30 : decode cX0_findNeighbours 30 = .ok (.getfield 44, 3) := by decide +kernel
theorem dX0_findNeighbours_33 : decode cX0_findNeighbours 33 = .ok (.if_icmp .ge 34, 3) := by decide +kernel
theorem dX0_findNeighbours_36 : decode cX0_findNeighbours 36 = .ok (.aload_n 0, 1) := by decide +kernel
theorem dX0_findNeighbours_37 : decode cX0_findNeighbours 37 = .ok (.getfield 21, 3) := by decide +kernel
theorem dX0_findNeighbours_40 : decode cX0_findNeighbours 40 = .ok (.aload_n 0, 1) := by decide +kernel
theorem dX0_findNeighbours_41 : decode cX0_findNeighbours 41 = .ok (.iload_n 1, 1) := by decide +kernel
theorem dX0_findNeighbours_42 : decode cX0_findNeighbours 42 = .ok (.invokevirtual 86, 3) := by decide +kernel
theorem dX0_findNeighbours_45 : decode cX0_findNeighbours 45 = .ok (.bipush 12, 2) := by decide +kernel
theorem dX0_findNeighbours_47 : decode cX0_findNeighbours 47 = .ok (.imul, 1) := by decide +kernel
theorem dX0_findNeighbours_48 : decode cX0_findNeighbours 48 = .ok (.aload_n 0, 1) := by decide +kernel
theorem dX0_findNeighbours_49 : decode cX0_findNeighbours 49 = .ok (.iload_n 1, 1) := by decide +kernel
theorem dX0_findNeighbours_50 : decode cX0_findNeighbours 50 = .ok (.iconst 1, 1) := by decide +kernel
theorem dX0_findNeighbours_51 : decode cX0_findNeighbours 51 = .ok (.iadd, 1) := by decide +kernel
theorem dX0_findNeighbours_52 : decode cX0_findNeighbours 52 = .ok (.invokevirtual 86, 3) := by decide +kernel
theorem dX0_findNeighbours_55 : decode cX0_findNeighbours 55 = .ok (.iadd, 1) := by decide +kernel
theorem dX0_findNeighbours_56 : decode cX0_findNeighbours 56 = .ok (.dup2, 1) := by decide +kernel
theorem dX0_findNeighbours_57 : decode cX0_findNeighbours 57 = .ok (.iaload, 1) := by decide +kernel
theorem dX0_findNeighbours_58 : decode cX0_findNeighbours 58 = .ok (.iconst 1, 1) := by decide +kernel
theorem dX0_findNeighbours_59 : decode cX0_findNeighbours 59 = .ok (.iadd, 1) := by decide +kernel
theorem dX0_findNeighbours_60 : decode cX0_findNeighbours 60 = .ok (.iastore, 1) := by decide +kernel
theorem dX0_findNeighbours_61 : decode cX0_findNeighbours 61 = .ok (.iinc 1 1, 3) := by decide +kernel
theorem dX0_findNeighbours_64 : decode cX0_findNeighbours 64 = .ok (.goto (-38), 3) := by decide +kernel
theorem dX0_findNeighbours_67 : decode cX0_findNeighbours 67 = .ok (.return_, 1) := by decide +kernel
section
variable {p : Program} {l : Launch} {e : Env} {s : State} {m : MethodId} {args : Array Value} {below : List Frame} {meth : Method} {c : Code} {Q : State → Prop} {G : GG} {A : Nat → Prop} {q : Nat → Nat} {fr : va_W}
def f_X0_findNeighbours_L26 (zp : Int32) (ze : Int32) (aW : Nat → Int32) : Nat → (Nat → Int32) → Int32 → Option ((Nat → Int32))
  | 0, _, _ => none
  | fu + 1, aN, v1 =>
    if zp ≤ (v1 + 1) then
    some aN
    else
    (f_X0_classNumber ze aW v1).bind fun z2 =>
    (f_X0_classNumber ze aW (v1 + 1)).bind fun z3 =>
    if inb ((z2 * 12) + z3) 144 then
    if inb ((z2 * 12) + z3) 144 then
    f_X0_findNeighbours_L26 zp ze aW fu (upd aN ((z2 * 12) + z3).toNatClampNeg ((aN ((z2 * 12) + z3).toNatClampNeg) + 1)) (v1 + 1)
    else none
    else none
set_option maxHeartbeats 4000000 in
set_option maxRecDepth 100000 in
theorem w_X0_findNeighbours_L26  {zp : Int32} {ze : Int32} {zf : Int32} {zg : Int32} {zn : Int32} {aG : Nat → Int32} {aW : Nat → Int32} {aR : Nat → Int32} {aF : Nat → Int32} {lC : Nat → Int64} {lS : Nat → Int64} {lP : Nat → Int64} {lX : Nat → Int64}   (F : Fx p s m args meth c cX0_findNeighbours 2 RX0 none) (hA : ∀ q, s.heap.size ≤ q → A q)   : ∀ (fu : Nat) (aN : Nat → Int32) (v1 : Int32) (z : (Nat → Int32)), f_X0_findNeighbours_L26 zp ze aW fu aN v1 = some z → Ends p l e (rmOf 1 21) s m args below meth c Q cX0_findNeighbours G A none (none) (kW G q zp ze zf zg zn aG aW aR z aF lC lS lP lX ++ fr) → ∀ (H : Heap) (locs : List Loc) (ls : Array Slot), Wd G s A (kW G q zp ze zf zg zn aG aW aR aN aF lC lS lP lX ++ fr) H locs → lv_has ls 2 [(0, .ref (q 0)), (1, .int v1)] → W p l e (rmOf 1 21) s m args below meth c H locs 0 0 Q (F0 m 26 ls []) := by
  have hx := F.x
  have hb := F.b
  intro fu
  induction fu with
  | zero =>
    intro aN v1 z h
    cases (h : none = some z)
  | succ fu ih =>
    intro aN v1 z h hE H locs ls hw hl
    rw [f_X0_findNeighbours_L26] at h
    refine lv_iload_n hx hb dX0_findNeighbours_26 rfl (lv_at hl 1 rfl) ?_
    refine lv_iconst (v := 1) hx hb dX0_findNeighbours_27 (by decide) ?_
    refine lv_iadd hx hb dX0_findNeighbours_28 ?_
    refine lv_aload_n hx hb dX0_findNeighbours_29 rfl (lv_at hl 0 rfl) ?_
    refine gf_0_44 F hw dX0_findNeighbours_30 ?_
    refine lv_icmp_ge (tgt := 67) hx hb dX0_findNeighbours_33 (by decide) (fun c1 => ?_) (fun c1 => ?_)
    · replace h := stT c1 h
      obtain rfl := Option.some.inj h
      exact hE H locs _ ls hw dX0_findNeighbours_67
    · replace h := stF c1 h
      refine lv_aload_n hx hb dX0_findNeighbours_36 rfl (lv_at hl 0 rfl) ?_
      refine gf_0_21 F hw dX0_findNeighbours_37 ?_
      refine lv_aload_n hx hb dX0_findNeighbours_40 rfl (lv_at hl 0 rfl) ?_
      refine lv_iload_n hx hb dX0_findNeighbours_41 rfl (lv_at hl 1 rfl) ?_
      obtain ⟨z2, hz2, h⟩ := stB h
      refine ctV (av := [.int v1]) (st0 := ([.ref (q 4)] : List Value)) (st1 := ([.int z2, .ref (q 4)] : List Value)) F hw hA (k_X0_classNumber hz2) kl_0_86 kd_X0_classNumber rfl ⟨by decide, by decide⟩ 0 rfl rfl hl.1 rfl (Nat.le_of_ble_eq_true rfl) dX0_findNeighbours_42 rfl (fun H locs hw => ?_)
      refine lv_bipush (v := 12) hx hb dX0_findNeighbours_45 (by decide) ?_
      refine lv_imul hx hb dX0_findNeighbours_47 ?_
      refine lv_aload_n hx hb dX0_findNeighbours_48 rfl (lv_at hl 0 rfl) ?_
      refine lv_iload_n hx hb dX0_findNeighbours_49 rfl (lv_at hl 1 rfl) ?_
      refine lv_iconst (v := 1) hx hb dX0_findNeighbours_50 (by decide) ?_
      refine lv_iadd hx hb dX0_findNeighbours_51 ?_
      obtain ⟨z3, hz3, h⟩ := stB h
      refine ctV (av := [.int (v1 + 1)]) (st0 := ([.int (z2 * 12), .ref (q 4)] : List Value)) (st1 := ([.int z3, .int (z2 * 12), .ref (q 4)] : List Value)) F hw hA (k_X0_classNumber hz3) kl_0_86 kd_X0_classNumber rfl ⟨by decide, by decide⟩ 0 rfl rfl hl.1 rfl (Nat.le_of_ble_eq_true rfl) dX0_findNeighbours_52 rfl (fun H locs hw => ?_)
      refine lv_iadd hx hb dX0_findNeighbours_55 ?_
      refine lv_dup2_11 hx hb dX0_findNeighbours_56 rfl rfl ?_
      obtain ⟨g4, h⟩ := stG h
      refine al_c4 F hw g4 dX0_findNeighbours_57 ?_
      refine lv_iconst (v := 1) hx hb dX0_findNeighbours_58 (by decide) ?_
      refine lv_iadd hx hb dX0_findNeighbours_59 ?_
      obtain ⟨g5, h⟩ := stG h
      refine as_c4 F hw g5 dX0_findNeighbours_60 (fun H locs hw => ?_)
      refine lv_iinc (v := (v1 + 1)) (lv' := [(1, .int (v1 + 1)), (0, .ref (q 0))]) hx hb dX0_findNeighbours_61 hl (k := 1) rfl rfl (by decide) rfl (fun ls hl => ?_)
      refine lv_goto (tgt := 26) hx hb dX0_findNeighbours_64 (by decide) ?_
      exact ih _ _ z h hE H locs ls hw (lv_sub hl [1, 0] rfl)
def f_X0_findNeighbours_L2 (zp : Int32) (ze : Int32) (aW : Nat → Int32) : Nat → (Nat → Int32) → Int32 → Option ((Nat → Int32))
  | 0, _, _ => none
  | fu + 1, aN, v1 =>
    if 144 ≤ v1 then
    f_X0_findNeighbours_L26 zp ze aW FU aN 1
    else
    if inb v1 144 then
    f_X0_findNeighbours_L2 zp ze aW fu (upd aN v1.toNatClampNeg 0) (v1 + 1)
    else none
set_option maxHeartbeats 4000000 in
set_option maxRecDepth 100000 in
theorem w_X0_findNeighbours_L2  {zp : Int32} {ze : Int32} {zf : Int32} {zg : Int32} {zn : Int32} {aG : Nat → Int32} {aW : Nat → Int32} {aR : Nat → Int32} {aF : Nat → Int32} {lC : Nat → Int64} {lS : Nat → Int64} {lP : Nat → Int64} {lX : Nat → Int64}   (F : Fx p s m args meth c cX0_findNeighbours 2 RX0 none) (hA : ∀ q, s.heap.size ≤ q → A q)   : ∀ (fu : Nat) (aN : Nat → Int32) (v1 : Int32) (z : (Nat → Int32)), f_X0_findNeighbours_L2 zp ze aW fu aN v1 = some z → Ends p l e (rmOf 1 21) s m args below meth c Q cX0_findNeighbours G A none (none) (kW G q zp ze zf zg zn aG aW aR z aF lC lS lP lX ++ fr) → ∀ (H : Heap) (locs : List Loc) (ls : Array Slot), Wd G s A (kW G q zp ze zf zg zn aG aW aR aN aF lC lS lP lX ++ fr) H locs → lv_has ls 2 [(0, .ref (q 0)), (1, .int v1)] → W p l e (rmOf 1 21) s m args below meth c H locs 0 0 Q (F0 m 2 ls []) := by
  have hx := F.x
  have hb := F.b
  intro fu
  induction fu with
  | zero =>
    intro aN v1 z h
    cases (h : none = some z)
  | succ fu ih =>
    intro aN v1 z h hE H locs ls hw hl
    rw [f_X0_findNeighbours_L2] at h
    refine lv_iload_n hx hb dX0_findNeighbours_2 rfl (lv_at hl 1 rfl) ?_
    refine lv_aload_n hx hb dX0_findNeighbours_3 rfl (lv_at hl 0 rfl) ?_
    refine gf_0_21 F hw dX0_findNeighbours_4 ?_
    refine va_alen F.x F.b hw.1 hw.2.1 4 0 rfl rfl (v := 144) rfl dX0_findNeighbours_7 ?_
    refine lv_icmp_ge (tgt := 24) hx hb dX0_findNeighbours_8 (by decide) (fun c1 => ?_) (fun c1 => ?_)
    · replace h := stT c1 h
      refine lv_iconst (v := 1) hx hb dX0_findNeighbours_24 (by decide) ?_
      refine lv_istore_n (lv' := [(1, .int 1), (0, .ref (q 0))]) hx hb dX0_findNeighbours_25 rfl hl (by decide) rfl (fun ls hl => ?_)
      exact w_X0_findNeighbours_L26 F hA  FU _ _ z h hE H locs ls hw (lv_sub hl [1, 0] rfl)
    · replace h := stF c1 h
      refine lv_aload_n hx hb dX0_findNeighbours_11 rfl (lv_at hl 0 rfl) ?_
      refine gf_0_21 F hw dX0_findNeighbours_12 ?_
      refine lv_iload_n hx hb dX0_findNeighbours_15 rfl (lv_at hl 1 rfl) ?_
      refine lv_iconst (v := 0) hx hb dX0_findNeighbours_16 (by decide) ?_
      obtain ⟨g2, h⟩ := stG h
      refine as_c4 F hw g2 dX0_findNeighbours_17 (fun H locs hw => ?_)
      refine lv_iinc (v := (v1 + 1)) (lv' := [(1, .int (v1 + 1)), (0, .ref (q 0))]) hx hb dX0_findNeighbours_18 hl (k := 1) rfl rfl (by decide) rfl (fun ls hl => ?_)
      refine lv_goto (tgt := 2) hx hb dX0_findNeighbours_21 (by decide) ?_
      exact ih _ _ z h hE H locs ls hw (lv_sub hl [1, 0] rfl)
def f_X0_findNeighbours (zp : Int32) (ze : Int32) (aW : Nat → Int32) (aN : Nat → Int32) : Option ((Nat → Int32)) :=
  f_X0_findNeighbours_L2 zp ze aW FU aN 0
set_option maxHeartbeats 4000000 in
set_option maxRecDepth 100000 in
theorem k_X0_findNeighbours {l : Launch} {G : GG} {q : Nat → Nat} {fr : va_W}  {zp : Int32} {ze : Int32} {zf : Int32} {zg : Int32} {zn : Int32} {aG : Nat → Int32} {aW : Nat → Int32} {aR : Nat → Int32} {aN : Nat → Int32} {aF : Nat → Int32} {lC : Nat → Int64} {lS : Nat → Int64} {lP : Nat → Int64} {lX : Nat → Int64}  {z : (Nat → Int32)}  (h : f_X0_findNeighbours zp ze aW aN = some z) : Ct l G yX0_findNeighbours cX0_findNeighbours 2 none 1 21 [.ref (q 0)] (kW G q zp ze zf zg zn aG aW aR aN aF lC lS lP lX ++ fr) (none) (kW G q zp ze zf zg zn aG aW aR z aF lC lS lP lX ++ fr) := by
  refine Ct.of (by decide +kernel) (Nat.le_of_ble_eq_true rfl) trivial ?_
  intro p e s m args below meth c Q A ls F hw hA hE hl
  have hx := F.x
  have hb := F.b
  unfold f_X0_findNeighbours at h
  obtain ⟨H, hH⟩ : ∃ H, H = s.heap := ⟨_, rfl⟩
  obtain ⟨locs, hlo⟩ : ∃ locs : List Loc, locs = [] := ⟨_, rfl⟩
  rw [← hH, ← hlo] at hw ⊢
  have hl : lv_has ls 2 [(0, .ref (q 0))] := hl
  refine lv_iconst (v := 0) hx hb dX0_findNeighbours_0 (by decide) ?_
  refine lv_istore_n (lv' := [(1, .int 0), (0, .ref (q 0))]) hx hb dX0_findNeighbours_1 rfl hl (by decide) rfl (fun ls hl => ?_)
  exact w_X0_findNeighbours_L2 F hA  FU _ _ z h hE H locs ls hw (lv_sub hl [1, 0] rfl)
end
theorem dX0_oppositeOf_0 : decode cX0_oppositeOf 0 = .ok (.iload_n 1, 1) := by decide +kernel
theorem dX0_oppositeOf_1 : decode cX0_oppositeOf 1 = .ok (.aload_n 0, 1) := by decide +kernel
theorem dX0_oppositeOf_2 : decode cX0_oppositeOf 2 = .ok (.getfield 44, 3) := by decide +kernel
theorem dX0_oppositeOf_5 : decode cX0_oppositeOf 5 = .ok (.iconst 1, 1) := by decide +kernel
theorem dX0_oppositeOf_6 : decode cX0_oppositeOf 6 = .ok (.isub, 1) := by decide +kernel
theorem dX0_oppositeOf_7 : decode cX0_oppositeOf 7 = .ok (.iconst 2, 1) := by decide +kernel
theorem dX0_oppositeOf_8 : decode cX0_oppositeOf 8 = .ok (.idiv, 1) := by decide +kernel
theorem dX0_oppositeOf_9 : decode cX0_oppositeOf 9 = .ok (.iadd, 1) := by decide +kernel
theorem dX0_oppositeOf_10 : decode cX0_oppositeOf 10 = .ok (.aload_n 0, 1) := by decide +kernel
theorem dX0_oppositeOf_11 : decode cX0_oppositeOf 11 = .ok (.getfield 48, 3) := by decide +kernel
theorem dX0_oppositeOf_14 : decode cX0_oppositeOf 14 = .ok (.irem, 1) := by decide +kernel
theorem dX0_oppositeOf_15 : decode cX0_oppositeOf 15 = .ok (.ireturn, 1) := by decide +kernel
section
variable {p : Program} {l : Launch} {e : Env} {s : State} {m : MethodId} {args : Array Value} {below : List Frame} {meth : Method} {c : Code} {Q : State → Prop} {G : GG} {A : Nat → Prop} {q : Nat → Nat} {fr : va_W}
def f_X0_oppositeOf (zp : Int32) (ze : Int32) (v1 : Int32) : Option (Int32) :=
  if ze = 0 then none else
  some ((v1 + ((zp - 1) / 2)) - (v1 + ((zp - 1) / 2)) / ze * ze)
set_option maxHeartbeats 4000000 in
set_option maxRecDepth 100000 in
theorem k_X0_oppositeOf {l : Launch} {G : GG} {q : Nat → Nat} {fr : va_W}  {zp : Int32} {ze : Int32} {zf : Int32} {zg : Int32} {zn : Int32} {aG : Nat → Int32} {aW : Nat → Int32} {aR : Nat → Int32} {aN : Nat → Int32} {aF : Nat → Int32} {lC : Nat → Int64} {lS : Nat → Int64} {lP : Nat → Int64} {lX : Nat → Int64} {v1 : Int32} {z : Int32}  (h : f_X0_oppositeOf zp ze v1 = some z) : Ct l G yX0_oppositeOf cX0_oppositeOf 2 (some .int) 0 0 [.ref (q 0), .int v1] (kW G q zp ze zf zg zn aG aW aR aN aF lC lS lP lX ++ fr) (some (.int z)) (kW G q zp ze zf zg zn aG aW aR aN aF lC lS lP lX ++ fr) := by
  refine Ct.of (by decide +kernel) (Nat.le_of_ble_eq_true rfl) trivial ?_
  intro p e s m args below meth c Q A ls F hw hA hE hl
  have hx := F.x
  have hb := F.b
  unfold f_X0_oppositeOf at h
  obtain ⟨H, hH⟩ : ∃ H, H = s.heap := ⟨_, rfl⟩
  obtain ⟨locs, hlo⟩ : ∃ locs : List Loc, locs = [] := ⟨_, rfl⟩
  rw [← hH, ← hlo] at hw ⊢
  have hl : lv_has ls 2 [(0, .ref (q 0)), (1, .int v1)] := hl
  refine lv_iload_n hx hb dX0_oppositeOf_0 rfl (lv_at hl 1 rfl) ?_
  refine lv_aload_n hx hb dX0_oppositeOf_1 rfl (lv_at hl 0 rfl) ?_
  refine gf_0_44 F hw dX0_oppositeOf_2 ?_
  refine lv_iconst (v := 1) hx hb dX0_oppositeOf_5 (by decide) ?_
  refine lv_isub hx hb dX0_oppositeOf_6 ?_
  refine lv_iconst (v := 2) hx hb dX0_oppositeOf_7 (by decide) ?_
  refine lv_idiv hx hb dX0_oppositeOf_8 (by decide) ?_
  refine lv_iadd hx hb dX0_oppositeOf_9 ?_
  refine lv_aload_n hx hb dX0_oppositeOf_10 rfl (lv_at hl 0 rfl) ?_
  refine gf_0_48 F hw dX0_oppositeOf_11 ?_
  obtain ⟨g1, h⟩ := stD h
  refine lv_irem hx hb dX0_oppositeOf_14 g1 ?_
  obtain rfl := Option.some.inj h
  exact hE H locs _ ls hw dX0_oppositeOf_15
end
theorem dX4_factorIndex_0 : decode cX4_factorIndex 0 = .ok (.iload_n 0, 1) := by decide +kernel
theorem dX4_factorIndex_1 : decode cX4_factorIndex 1 = .ok (.bipush 12, 2) := by decide +kernel
theorem dX4_factorIndex_3 : decode cX4_factorIndex 3 = .ok (.imul, 1) := by decide +kernel
theorem dX4_factorIndex_4 : decode cX4_factorIndex 4 = .ok (.iload_n 1, 1) := by decide +kernel
theorem dX4_factorIndex_5 : decode cX4_factorIndex 5 = .ok (.iadd, 1) := by decide +kernel
theorem dX4_factorIndex_6 : decode cX4_factorIndex 6 = .ok (.bipush 12, 2) := by decide +kernel
theorem dX4_factorIndex_8 : decode cX4_factorIndex 8 = .ok (.imul, 1) := by decide +kernel
theorem dX4_factorIndex_9 : decode cX4_factorIndex 9 = .ok (.iload_n 2, 1) := by decide +kernel
theorem dX4_factorIndex_10 : decode cX4_factorIndex 10 = .ok (.iadd, 1) := by decide +kernel
theorem dX4_factorIndex_11 : decode cX4_factorIndex 11 = .ok (.ireturn, 1) := by decide +kernel
section
variable {p : Program} {l : Launch} {e : Env} {s : State} {m : MethodId} {args : Array Value} {below : List Frame} {meth : Method} {c : Code} {Q : State → Prop} {G : GG} {A : Nat → Prop} {q : Nat → Nat} {fr : va_W}
def f_X4_factorIndex (v0 : Int32) (v1 : Int32) (v2 : Int32) : Option (Int32) :=
  some ((((v0 * 12) + v1) * 12) + v2)
set_option maxHeartbeats 4000000 in
set_option maxRecDepth 100000 in
theorem k_X4_factorIndex {l : Launch} {G : GG} {fr : va_W}   {v0 : Int32} {v1 : Int32} {v2 : Int32} {z : Int32}  (h : f_X4_factorIndex v0 v1 v2 = some z) : Ct l G yX4_factorIndex cX4_factorIndex 3 (some .int) 0 0 [.int v0, .int v1, .int v2] fr (some (.int z)) fr := by
  refine Ct.of (by decide +kernel) (Nat.le_of_ble_eq_true rfl) trivial ?_
  intro p e s m args below meth c Q A ls F hw hA hE hl
  have hx := F.x
  have hb := F.b
  unfold f_X4_factorIndex at h
  obtain ⟨H, hH⟩ : ∃ H, H = s.heap := ⟨_, rfl⟩
  obtain ⟨locs, hlo⟩ : ∃ locs : List Loc, locs = [] := ⟨_, rfl⟩
  rw [← hH, ← hlo] at hw ⊢
  have hl : lv_has ls 3 [(0, .int v0), (1, .int v1), (2, .int v2)] := hl
  refine lv_iload_n hx hb dX4_factorIndex_0 rfl (lv_at hl 0 rfl) ?_
  refine lv_bipush (v := 12) hx hb dX4_factorIndex_1 (by decide) ?_
  refine lv_imul hx hb dX4_factorIndex_3 ?_
  refine lv_iload_n hx hb dX4_factorIndex_4 rfl (lv_at hl 1 rfl) ?_
  refine lv_iadd hx hb dX4_factorIndex_5 ?_
  refine lv_bipush (v := 12) hx hb dX4_factorIndex_6 (by decide) ?_
  refine lv_imul hx hb dX4_factorIndex_8 ?_
  refine lv_iload_n hx hb dX4_factorIndex_9 rfl (lv_at hl 2 rfl) ?_
  refine lv_iadd hx hb dX4_factorIndex_10 ?_
  obtain rfl := Option.some.inj h
  exact hE H locs _ ls hw dX4_factorIndex_11
end
theorem dX0_countMeetings_0 : decode cX0_countMeetings 0 = .ok (.iconst 1, 1) := by decide +kernel
theorem dX0_countMeetings_1 : decode cX0_countMeetings 1 = .ok (.istore_n 3, 1) := by decide +kernel
theorem dX0_countMeetings_2 : decode cX0_countMeetings 2 = .ok (.iload_n 3, 1) := by decide +kernel
theorem dX0_countMeetings_3 : decode cX0_countMeetings 3 = .ok (.aload_n 0, 1) := by decide +kernel
theorem dX0_countMeetings_4 : decode cX0_countMeetings 4 = .ok (.getfield 44, 3) := by decide +kernel
theorem dX0_countMeetings_7 : decode cX0_countMeetings 7 = .ok (.if_icmp .ge 62, 3) := by decide +kernel
theorem dX0_countMeetings_10 : decode cX0_countMeetings 10 = .ok (.iload_n 3, 1) := by decide +kernel
theorem dX0_countMeetings_11 : decode cX0_countMeetings 11 = .ok (.iload_n 1, 1) := by decide +kernel
theorem dX0_countMeetings_12 : decode cX0_countMeetings 12 = .ok (.if_icmp .ne 6, 3) := by decide +kernel
theorem dX0_countMeetings_15 : decode cX0_countMeetings 15 = .ok (.goto 48, 3) := by decide +kernel
theorem dX0_countMeetings_18 : decode cX0_countMeetings 18 = .ok (.iload_n 3, 1) := by decide +kernel
theorem dX0_countMeetings_19 : decode cX0_countMeetings 19 = .ok (.iload_n 1, 1) := by decide +kernel
theorem dX0_countMeetings_20 : decode cX0_countMeetings 20 = .ok (.if_icmp .ge 9, 3) := by decide +kernel
theorem dX0_countMeetings_23 : decode cX0_countMeetings 23 = .ok (.iload_n 1, 1) := by decide +kernel
theorem dX0_countMeetings_24 : decode cX0_countMeetings 24 = .ok (.iload_n 3, 1) := by decide +kernel
theorem dX0_countMeetings_25 : decode cX0_countMeetings 25 = .ok (.isub, 1) := by decide +kernel
theorem dX0_countMeetings_26 : decode cX0_countMeetings 26 = .ok (.goto 11, 3) := by decide +kernel
theorem dX0_countMeetings_29 : decode cX0_countMeetings 29 = .ok (.iload_n 1, 1) := by decide +kernel
theorem dX0_countMeetings_30 : decode cX0_countMeetings 30 = .ok (.iload_n 3, 1) := by decide +kernel
theorem dX0_countMeetings_31 : decode cX0_countMeetings 31 = .ok (.isub, 1) := by decide +kernel
theorem dX0_countMeetings_32 : decode cX0_countMeetings 32 = .ok (.aload_n 0, 1) := by decide +kernel
theorem dX0_countMeetings_33 : decode cX0_countMeetings 33 = .ok (.getfield 44, 3) := by decide +kernel
theorem dX0_countMeetings_36 : decode cX0_countMeetings 36 = .ok (.iadd, 1) := by decide +kernel
theorem dX0_countMeetings_37 : decode cX0_countMeetings 37 = .ok (.istore 4, 2) := by decide +kernel
theorem dX0_countMeetings_39 : decode cX0_countMeetings 39 = .ok (.aload_n 0, 1) := by decide +kernel
theorem dX0_countMeetings_40 : decode cX0_countMeetings 40 = .ok (.getfield 24, 3) := by decide +kernel
theorem dX0_countMeetings_43 : decode cX0_countMeetings 43 = .ok (.aload_n 0, 1) := by decide +kernel
theorem dX0_countMeetings_44 : decode cX0_countMeetings 44 = .ok (.iload_n 3, 1) := by decide +kernel
theorem dX0_countMeetings_45 : decode cX0_countMeetings 45 = .ok (.invokevirtual 86, 3) := by decide +kernel
theorem dX0_countMeetings_48 : decode cX0_countMeetings 48 = .ok (.aload_n 0, 1) := by decide +kernel
theorem dX0_countMeetings_49 : decode cX0_countMeetings 49 = .ok (.iload 4, 2) := by decide +kernel
theorem dX0_countMeetings_51 : decode cX0_countMeetings 51 = .ok (.invokevirtual 86, 3) := by decide +kernel
theorem dX0_countMeetings_54 : decode cX0_countMeetings 54 = .ok (.iload_n 2, 1) := by decide +kernel
theorem dX0_countMeetings_55 : decode cX0_countMeetings 55 = .ok (.invokestatic 93, 3) := by decide +kernel
theorem dX0_countMeetings_58 : decode cX0_countMeetings 58 = .ok (.dup2, 1) := by decide +kernel
theorem dX0_countMeetings_59 : decode cX0_countMeetings 59 = .ok (.iaload, 1) := by decide +kernel
theorem dX0_countMeetings_60 : decode cX0_countMeetings 60 = .ok (.iconst 1, 1) := by decide +kernel
theorem dX0_countMeetings_61 : decode cX0_countMeetings 61 = .ok (.iadd, 1) := by decide +kernel
theorem dX0_countMeetings_62 : decode cX0_countMeetings 62 = .ok (.iastore, 1) := by decide +kernel
theorem dX0_countMeetings_63 : decode cX0_countMeetings 63 = .ok (.iinc 3 1, 3) := by decide +kernel
theorem dX0_countMeetings_66 : decode cX0_countMeetings 66 = .ok (.goto (-64), 3) := by decide +kernel
theorem dX0_countMeetings_69 : decode cX0_countMeetings 69 = .ok (.return_, 1) := by decide +kernel
section
variable {p : Program} {l : Launch} {e : Env} {s : State} {m : MethodId} {args : Array Value} {below : List Frame} {meth : Method} {c : Code} {Q : State → Prop} {G : GG} {A : Nat → Prop} {q : Nat → Nat} {fr : va_W}
def f_X0_countMeetings_L2 (zp : Int32) (ze : Int32) (aW : Nat → Int32) (v1 : Int32) (v2 : Int32) : Nat → (Nat → Int32) → Int32 → Option ((Nat → Int32))
  | 0, _, _ => none
  | fu + 1, aF, v3 =>
    if zp ≤ v3 then
    some aF
    else
    if v3 = v1 then
    f_X0_countMeetings_L2 zp ze aW v1 v2 fu aF (v3 + 1)
    else
    if v1 ≤ v3 then
    (f_X0_classNumber ze aW v3).bind fun z4 =>
    (f_X0_classNumber ze aW ((v1 - v3) + zp)).bind fun z5 =>
    (f_X4_factorIndex z4 z5 v2).bind fun z6 =>
    if inb z6 1728 then
    if inb z6 1728 then
    f_X0_countMeetings_L2 zp ze aW v1 v2 fu (upd aF z6.toNatClampNeg ((aF z6.toNatClampNeg) + 1)) (v3 + 1)
    else none
    else none
    else
    (f_X0_classNumber ze aW v3).bind fun z9 =>
    (f_X0_classNumber ze aW (v1 - v3)).bind fun z10 =>
    (f_X4_factorIndex z9 z10 v2).bind fun z11 =>
    if inb z11 1728 then
    if inb z11 1728 then
    f_X0_countMeetings_L2 zp ze aW v1 v2 fu (upd aF z11.toNatClampNeg ((aF z11.toNatClampNeg) + 1)) (v3 + 1)
    else none
    else none
set_option maxHeartbeats 4000000 in
set_option maxRecDepth 100000 in
theorem w_X0_countMeetings_L2  {zp : Int32} {ze : Int32} {zf : Int32} {zg : Int32} {zn : Int32} {aG : Nat → Int32} {aW : Nat → Int32} {aR : Nat → Int32} {aN : Nat → Int32} {lC : Nat → Int64} {lS : Nat → Int64} {lP : Nat → Int64} {lX : Nat → Int64} {v1 : Int32} {v2 : Int32}  (F : Fx p s m args meth c cX0_countMeetings 5 RX0 none) (hA : ∀ q, s.heap.size ≤ q → A q)   : ∀ (fu : Nat) (aF : Nat → Int32) (v3 : Int32) (z : (Nat → Int32)), f_X0_countMeetings_L2 zp ze aW v1 v2 fu aF v3 = some z → Ends p l e (rmOf 1 22) s m args below meth c Q cX0_countMeetings G A none (none) (kW G q zp ze zf zg zn aG aW aR aN z lC lS lP lX ++ fr) → ∀ (H : Heap) (locs : List Loc) (ls : Array Slot), Wd G s A (kW G q zp ze zf zg zn aG aW aR aN aF lC lS lP lX ++ fr) H locs → lv_has ls 5 [(0, .ref (q 0)), (1, .int v1), (2, .int v2), (3, .int v3)] → W p l e (rmOf 1 22) s m args below meth c H locs 0 0 Q (F0 m 2 ls []) := by
  have hx := F.x
  have hb := F.b
  intro fu
  induction fu with
  | zero =>
    intro aF v3 z h
    cases (h : none = some z)
  | succ fu ih =>
    intro aF v3 z h hE H locs ls hw hl
    rw [f_X0_countMeetings_L2] at h
    refine lv_iload_n hx hb dX0_countMeetings_2 rfl (lv_at hl 3 rfl) ?_
    refine lv_aload_n hx hb dX0_countMeetings_3 rfl (lv_at hl 0 rfl) ?_
    refine gf_0_44 F hw dX0_countMeetings_4 ?_
    refine lv_icmp_ge (tgt := 69) hx hb dX0_countMeetings_7 (by decide) (fun c1 => ?_) (fun c1 => ?_)
    · replace h := stT c1 h
      obtain rfl := Option.some.inj h
      exact hE H locs _ ls hw dX0_countMeetings_69
    · replace h := stF c1 h
      refine lv_iload_n hx hb dX0_countMeetings_10 rfl (lv_at hl 3 rfl) ?_
      refine lv_iload_n hx hb dX0_countMeetings_11 rfl (lv_at hl 1 rfl) ?_
      refine lv_icmp_ne (tgt := 18) hx hb dX0_countMeetings_12 (by decide) (fun c2 => ?_) (fun c2 => ?_)
      · replace h := stF c2 h
        refine lv_iload_n hx hb dX0_countMeetings_18 rfl (lv_at hl 3 rfl) ?_
        refine lv_iload_n hx hb dX0_countMeetings_19 rfl (lv_at hl 1 rfl) ?_
        refine lv_icmp_ge (tgt := 29) hx hb dX0_countMeetings_20 (by decide) (fun c3 => ?_) (fun c3 => ?_)
        · replace h := stT c3 h
          refine lv_iload_n hx hb dX0_countMeetings_29 rfl (lv_at hl 1 rfl) ?_
          refine lv_iload_n hx hb dX0_countMeetings_30 rfl (lv_at hl 3 rfl) ?_
          refine lv_isub hx hb dX0_countMeetings_31 ?_
          refine lv_aload_n hx hb dX0_countMeetings_32 rfl (lv_at hl 0 rfl) ?_
          refine gf_0_44 F hw dX0_countMeetings_33 ?_
          refine lv_iadd hx hb dX0_countMeetings_36 ?_
          refine lv_istore (lv' := [(4, .int ((v1 - v3) + zp)), (0, .ref (q 0)), (1, .int v1), (2, .int v2), (3, .int v3)]) hx hb dX0_countMeetings_37 hl (by decide) rfl (fun ls hl => ?_)
          refine lv_aload_n hx hb dX0_countMeetings_39 rfl (lv_at hl 1 rfl) ?_
          refine gf_0_24 F hw dX0_countMeetings_40 ?_
          refine lv_aload_n hx hb dX0_countMeetings_43 rfl (lv_at hl 1 rfl) ?_
          refine lv_iload_n hx hb dX0_countMeetings_44 rfl (lv_at hl 4 rfl) ?_
          obtain ⟨z4, hz4, h⟩ := stB h
          refine ctV (av := [.int v3]) (st0 := ([.ref (q 5)] : List Value)) (st1 := ([.int z4, .ref (q 5)] : List Value)) F hw hA (k_X0_classNumber hz4) kl_0_86 kd_X0_classNumber rfl ⟨by decide, by decide⟩ 0 rfl rfl hl.1 rfl (Nat.le_of_ble_eq_true rfl) dX0_countMeetings_45 rfl (fun H locs hw => ?_)
          refine lv_aload_n hx hb dX0_countMeetings_48 rfl (lv_at hl 1 rfl) ?_
          refine lv_iload hx hb dX0_countMeetings_49 (lv_at hl 0 rfl) ?_
          obtain ⟨z5, hz5, h⟩ := stB h
          refine ctV (av := [.int ((v1 - v3) + zp)]) (st0 := ([.int z4, .ref (q 5)] : List Value)) (st1 := ([.int z5, .int z4, .ref (q 5)] : List Value)) F hw hA (k_X0_classNumber hz5) kl_0_86 kd_X0_classNumber rfl ⟨by decide, by decide⟩ 0 rfl rfl hl.1 rfl (Nat.le_of_ble_eq_true rfl) dX0_countMeetings_51 rfl (fun H locs hw => ?_)
          refine lv_iload_n hx hb dX0_countMeetings_54 rfl (lv_at hl 3 rfl) ?_
          obtain ⟨z6, hz6, h⟩ := stB h
          refine ctSN (av := [.int z4, .int z5, .int v2]) (st0 := ([.ref (q 5)] : List Value)) (st1 := ([.int z6, .ref (q 5)] : List Value)) (host := RX4) F hw hA (k_X4_factorIndex hz6) (by decide +kernel) kn_X4_factorIndex ki_4 ks_X4_factorIndex kd_X4_factorIndex rfl ⟨by decide, by decide⟩ hl.1 rfl (Nat.le_of_ble_eq_true rfl) dX0_countMeetings_55 rfl (fun H locs hw => ?_)
          refine lv_dup2_11 hx hb dX0_countMeetings_58 rfl rfl ?_
          obtain ⟨g7, h⟩ := stG h
          refine al_c5 F hw g7 dX0_countMeetings_59 ?_
          refine lv_iconst (v := 1) hx hb dX0_countMeetings_60 (by decide) ?_
          refine lv_iadd hx hb dX0_countMeetings_61 ?_
          obtain ⟨g8, h⟩ := stG h
          refine as_c5 F hw g8 dX0_countMeetings_62 (fun H locs hw => ?_)
          refine lv_iinc (v := (v3 + 1)) (lv' := [(3, .int (v3 + 1)), (4, .int ((v1 - v3) + zp)), (0, .ref (q 0)), (1, .int v1), (2, .int v2)]) hx hb dX0_countMeetings_63 hl (k := 4) rfl rfl (by decide) rfl (fun ls hl => ?_)
          refine lv_goto (tgt := 2) hx hb dX0_countMeetings_66 (by decide) ?_
          exact ih _ _ z h hE H locs ls hw (lv_sub hl [2, 3, 4, 0] rfl)
        · replace h := stF c3 h
          refine lv_iload_n hx hb dX0_countMeetings_23 rfl (lv_at hl 1 rfl) ?_
          refine lv_iload_n hx hb dX0_countMeetings_24 rfl (lv_at hl 3 rfl) ?_
          refine lv_isub hx hb dX0_countMeetings_25 ?_
          refine lv_goto (tgt := 37) hx hb dX0_countMeetings_26 (by decide) ?_
          refine lv_istore (lv' := [(4, .int (v1 - v3)), (0, .ref (q 0)), (1, .int v1), (2, .int v2), (3, .int v3)]) hx hb dX0_countMeetings_37 hl (by decide) rfl (fun ls hl => ?_)
          refine lv_aload_n hx hb dX0_countMeetings_39 rfl (lv_at hl 1 rfl) ?_
          refine gf_0_24 F hw dX0_countMeetings_40 ?_
          refine lv_aload_n hx hb dX0_countMeetings_43 rfl (lv_at hl 1 rfl) ?_
          refine lv_iload_n hx hb dX0_countMeetings_44 rfl (lv_at hl 4 rfl) ?_
          obtain ⟨z9, hz9, h⟩ := stB h
          refine ctV (av := [.int v3]) (st0 := ([.ref (q 5)] : List Value)) (st1 := ([.int z9, .ref (q 5)] : List Value)) F hw hA (k_X0_classNumber hz9) kl_0_86 kd_X0_classNumber rfl ⟨by decide, by decide⟩ 0 rfl rfl hl.1 rfl (Nat.le_of_ble_eq_true rfl) dX0_countMeetings_45 rfl (fun H locs hw => ?_)
          refine lv_aload_n hx hb dX0_countMeetings_48 rfl (lv_at hl 1 rfl) ?_
          refine lv_iload hx hb dX0_countMeetings_49 (lv_at hl 0 rfl) ?_
          obtain ⟨z10, hz10, h⟩ := stB h
          refine ctV (av := [.int (v1 - v3)]) (st0 := ([.int z9, .ref (q 5)] : List Value)) (st1 := ([.int z10, .int z9, .ref (q 5)] : List Value)) F hw hA (k_X0_classNumber hz10) kl_0_86 kd_X0_classNumber rfl ⟨by decide, by decide⟩ 0 rfl rfl hl.1 rfl (Nat.le_of_ble_eq_true rfl) dX0_countMeetings_51 rfl (fun H locs hw => ?_)
          refine lv_iload_n hx hb dX0_countMeetings_54 rfl (lv_at hl 3 rfl) ?_
          obtain ⟨z11, hz11, h⟩ := stB h
          refine ctSN (av := [.int z9, .int z10, .int v2]) (st0 := ([.ref (q 5)] : List Value)) (st1 := ([.int z11, .ref (q 5)] : List Value)) (host := RX4) F hw hA (k_X4_factorIndex hz11) (by decide +kernel) kn_X4_factorIndex ki_4 ks_X4_factorIndex kd_X4_factorIndex rfl ⟨by decide, by decide⟩ hl.1 rfl (Nat.le_of_ble_eq_true rfl) dX0_countMeetings_55 rfl (fun H locs hw => ?_)
          refine lv_dup2_11 hx hb dX0_countMeetings_58 rfl rfl ?_
          obtain ⟨g12, h⟩ := stG h
          refine al_c5 F hw g12 dX0_countMeetings_59 ?_
          refine lv_iconst (v := 1) hx hb dX0_countMeetings_60 (by decide) ?_
          refine lv_iadd hx hb dX0_countMeetings_61 ?_
          obtain ⟨g13, h⟩ := stG h
          refine as_c5 F hw g13 dX0_countMeetings_62 (fun H locs hw => ?_)
          refine lv_iinc (v := (v3 + 1)) (lv' := [(3, .int (v3 + 1)), (4, .int (v1 - v3)), (0, .ref (q 0)), (1, .int v1), (2, .int v2)]) hx hb dX0_countMeetings_63 hl (k := 4) rfl rfl (by decide) rfl (fun ls hl => ?_)
          refine lv_goto (tgt := 2) hx hb dX0_countMeetings_66 (by decide) ?_
          exact ih _ _ z h hE H locs ls hw (lv_sub hl [2, 3, 4, 0] rfl)
      · replace h := stT c2 h
        refine lv_goto (tgt := 63) hx hb dX0_countMeetings_15 (by decide) ?_
        refine lv_iinc (v := (v3 + 1)) (lv' := [(3, .int (v3 + 1)), (0, .ref (q 0)), (1, .int v1), (2, .int v2)]) hx hb dX0_countMeetings_63 hl (k := 3) rfl rfl (by decide) rfl (fun ls hl => ?_)
        refine lv_goto (tgt := 2) hx hb dX0_countMeetings_66 (by decide) ?_
        exact ih _ _ z h hE H locs ls hw (lv_sub hl [1, 2, 3, 0] rfl)
def f_X0_countMeetings (zp : Int32) (ze : Int32) (aW : Nat → Int32) (aF : Nat → Int32) (v1 : Int32) (v2 : Int32) : Option ((Nat → Int32)) :=
  f_X0_countMeetings_L2 zp ze aW v1 v2 FU aF 1
set_option maxHeartbeats 4000000 in
set_option maxRecDepth 100000 in
theorem k_X0_countMeetings {l : Launch} {G : GG} {q : Nat → Nat} {fr : va_W}  {zp : Int32} {ze : Int32} {zf : Int32} {zg : Int32} {zn : Int32} {aG : Nat → Int32} {aW : Nat → Int32} {aR : Nat → Int32} {aN : Nat → Int32} {aF : Nat → Int32} {lC : Nat → Int64} {lS : Nat → Int64} {lP : Nat → Int64} {lX : Nat → Int64} {v1 : Int32} {v2 : Int32} {z : (Nat → Int32)}  (h : f_X0_countMeetings zp ze aW aF v1 v2 = some z) : Ct l G yX0_countMeetings cX0_countMeetings 5 none 1 22 [.ref (q 0), .int v1, .int v2] (kW G q zp ze zf zg zn aG aW aR aN aF lC lS lP lX ++ fr) (none) (kW G q zp ze zf zg zn aG aW aR aN z lC lS lP lX ++ fr) := by
  refine Ct.of (by decide +kernel) (Nat.le_of_ble_eq_true rfl) trivial ?_
  intro p e s m args below meth c Q A ls F hw hA hE hl
  have hx := F.x
  have hb := F.b
  unfold f_X0_countMeetings at h
  obtain ⟨H, hH⟩ : ∃ H, H = s.heap := ⟨_, rfl⟩
  obtain ⟨locs, hlo⟩ : ∃ locs : List Loc, locs = [] := ⟨_, rfl⟩
  rw [← hH, ← hlo] at hw ⊢
  have hl : lv_has ls 5 [(0, .ref (q 0)), (1, .int v1), (2, .int v2)] := hl
  refine lv_iconst (v := 1) hx hb dX0_countMeetings_0 (by decide) ?_
  refine lv_istore_n (lv' := [(3, .int 1), (0, .ref (q 0)), (1, .int v1), (2, .int v2)]) hx hb dX0_countMeetings_1 rfl hl (by decide) rfl (fun ls hl => ?_)
  exact w_X0_countMeetings_L2 F hA  FU _ _ z h hE H locs ls hw (lv_sub hl [1, 2, 3, 0] rfl)
end
theorem dX0_findFactors_0 : decode cX0_findFactors 0 = .ok (.iconst 0, 1) := by decide +kernel
theorem dX0_findFactors_1 : decode cX0_findFactors 1 = .ok (.istore_n 1, 1) := by decide +kernel
theorem dX0_findFactors_2 : decode cX0_findFactors 2 = .ok (.iload_n 1, 1) := by decide +kernel
theorem dX0_findFactors_3 : decode cX0_findFactors 3 = .ok (.aload_n 0, 1) := by decide +kernel
theorem dX0_findFactors_4 : decode cX0_findFactors 4 = .ok (.getfield 48, 3) := by decide +kernel
theorem dX0_findFactors_7 : decode cX0_findFactors 7 = .ok (.if_icmp .ge 75, 3) := by decide +kernel
theorem dX0_findFactors_10 : decode cX0_findFactors 10 = .ok (.iconst 0, 1) := by decide +kernel
theorem dX0_findFactors_11 : decode cX0_findFactors 11 = .ok (.istore_n 2, 1) := by decide +kernel
theorem dX0_findFactors_12 : decode cX0_findFactors 12 = .ok (.iload_n 2, 1) := by decide +kernel
theorem dX0_findFactors_13 : decode cX0_findFactors 13 = .ok (.aload_n 0, 1) := by decide +kernel
theorem dX0_findFactors_14 : decode cX0_findFactors 14 = .ok (.getfield 48, 3) := by decide +kernel
theorem dX0_findFactors_17 : decode cX0_findFactors 17 = .ok (.if_icmp .ge 59, 3) := by decide +kernel
theorem dX0_findFactors_20 : decode cX0_findFactors 20 = .ok (.aload_n 0, 1) := by decide +kernel
theorem dX0_findFactors_21 : decode cX0_findFactors 21 = .ok (.iload_n 1, 1) := by decide +kernel
theorem dX0_findFactors_22 : decode cX0_findFactors 22 = .ok (.invokevirtual 90, 3) := by decide +kernel
theorem dX0_findFactors_25 : decode cX0_findFactors 25 = .ok (.iload_n 2, 1) := by decide +kernel
theorem dX0_findFactors_26 : decode cX0_findFactors 26 = .ok (.if_icmp .ne 11, 3) := by decide +kernel
theorem dX0_findFactors_29 : decode cX0_findFactors 29 = .ok (.aload_n 0, 1) := by decide +kernel
theorem dX0_findFactors_30 : decode cX0_findFactors 30 = .ok (.getfield 51, 3) := by decide +kernel
theorem dX0_findFactors_33 : decode cX0_findFactors 33 = .ok (.ineg, 1) := by decide +kernel
theorem dX0_findFactors_34 : decode cX0_findFactors 34 = .ok (.goto 4, 3) := by decide +kernel
theorem dX0_findFactors_37 : decode cX0_findFactors 37 = .ok (.iconst 0, 1) := by decide +kernel
theorem dX0_findFactors_38 : decode cX0_findFactors 38 = .ok (.istore_n 3, 1) := by decide +kernel
theorem dX0_findFactors_39 : decode cX0_findFactors 39 = .ok (.iconst 0, 1) := by decide +kernel
theorem dX0_findFactors_40 : decode cX0_findFactors 40 = .ok (.istore 4, 2) := by decide +kernel
theorem dX0_findFactors_42 : decode cX0_findFactors 42 = .ok (.iload 4, 2) := by decide +kernel
theorem dX0_findFactors_44 : decode cX0_findFactors 44 = .ok (.aload_n 0, 1) := by decide +kernel
theorem dX0_findFactors_45 : decode cX0_findFactors 45 = .ok (.getfield 48, 3) := by decide +kernel
theorem dX0_findFactors_48 : decode cX0_findFactors 48 = .ok (.if_icmp .ge 22, 3) := by decide +kernel
theorem dX0_findFactors_51 : decode cX0_findFactors 51 = .ok (.aload_n 0, 1) := by decide +kernel
theorem dX0_findFactors_52 : decode cX0_findFactors 52 = .ok (.getfield 24, 3) := by decide +kernel
theorem dX0_findFactors_55 : decode cX0_findFactors 55 = .ok (.iload_n 1, 1) := by decide +kernel
theorem dX0_findFactors_56 : decode cX0_findFactors 56 = .ok (.iload_n 2, 1) := by decide +kernel
theorem dX0_findFactors_57 : decode cX0_findFactors 57 = .ok (.iload 4, 2) := by decide +kernel
theorem dX0_findFactors_59 : decode cX0_findFactors 59 = .ok (.invokestatic 93, 3) := by decide +kernel
theorem dX0_findFactors_62 : decode cX0_findFactors 62 = .ok (.iload_n 3, 1) := by decide +kernel
theorem dX0_findFactors_63 : decode cX0_findFactors 63 = .ok (.iastore, 1) := by decide +kernel
theorem dX0_findFactors_64 : decode cX0_findFactors 64 = .ok (.iinc 4 1, 3) := by decide +kernel
theorem dX0_findFactors_67 : decode cX0_findFactors 67 = .ok (.goto (-25), 3) := by decide +kernel
theorem dX0_findFactors_70 : decode cX0_findFactors 70 = .ok (.iinc 2 1, 3) := by decide +kernel
theorem dX0_findFactors_73 : decode cX0_findFactors 73 = .ok (.goto (-61), 3) := by decide +kernel
theorem dX0_findFactors_76 : decode cX0_findFactors 76 = .ok (.iinc 1 1, 3) := by decide +kernel
theorem dX0_findFactors_79 : decode cX0_findFactors 79 = .ok (.goto (-77), 3) := by decide +kernel
theorem dX0_findFactors_82 : decode cX0_findFactors 82 = .ok (.iconst 1, 1) := by decide +kernel
theorem dX0_findFactors_83 : decode cX0_findFactors 83 = .ok (.istore_n 1, 1) := by decide +kernel
theorem dX0_findFactors_84 : decode cX0_findFactors 84 = .ok (.iconst 0, 1) := by decide +kernel
theorem dX0_findFactors_85 : decode cX0_findFactors 85 = .ok (.istore_n 2, 1) := by decide +kernel
theorem dX0_findFactors_86 : decode cX0_findFactors 86 = .ok (.iload_n 2, 1) := by decide +kernel
theorem dX0_findFactors_87 : decode cX0_findFactors 87 = .ok (.aload_n 0, 1) := by decide +kernel
theorem dX0_findFactors_88 : decode cX0_findFactors 88 = .ok (.getfield 48, 3) := by decide +kernel
theorem dX0_findFactors_91 : decode cX0_findFactors 91 = .ok (.if_icmp .ge 27, 3) := by decide +kernel
theorem dX0_findFactors_94 : decode cX0_findFactors 94 = .ok (.aload_n 0, 1) := by decide +kernel
theorem dX0_findFactors_95 : decode cX0_findFactors 95 = .ok (.iload_n 1, 1) := by decide +kernel
theorem dX0_findFactors_96 : decode cX0_findFactors 96 = .ok (.iload_n 2, 1) := by decide +kernel
theorem dX0_findFactors_97 : decode cX0_findFactors 97 = .ok (.invokevirtual 97, 3) := by decide +kernel
theorem dX0_findFactors_100 : decode cX0_findFactors 100 = .ok (.iload_n 1, 1) := by decide +kernel
theorem dX0_findFactors_101 : decode cX0_findFactors 101 = .ok (.aload_n 0, 1) := by decide +kernel
theorem dX0_findFactors_102 : decode cX0_findFactors 102 = .ok (.getfield 67, 3) := by decide +kernel
theorem dX0_findFactors_105 : decode cX0_findFactors 105 = .ok (.imul, 1) := by decide +kernel
theorem dX0_findFactors_106 : decode cX0_findFactors 106 = .ok (.aload_n 0, 1) := by decide +kernel
theorem dX0_findFactors_107 : decode cX0_findFactors 107 = .ok (.getfield 44, 3) := by decide +kernel
theorem dX0_findFactors_110 : decode cX0_findFactors 110 = .ok (.irem, 1) := by decide +kernel
theorem dX0_findFactors_111 : decode cX0_findFactors 111 = .ok (.istore_n 1, 1) := by decide +kernel
theorem dX0_findFactors_112 : decode cX0_findFactors 112 = .ok (.iinc 2 1, 3) := by decide +kernel
theorem dX0_findFactors_115 : decode cX0_findFactors 115 = .ok (.goto (-29), 3) := by decide +kernel
theorem dX0_findFactors_118 : decode cX0_findFactors 118 = .ok (.return_, 1) := by decide +kernel
section
variable {p : Program} {l : Launch} {e : Env} {s : State} {m : MethodId} {args : Array Value} {below : List Frame} {meth : Method} {c : Code} {Q : State → Prop} {G : GG} {A : Nat → Prop} {q : Nat → Nat} {fr : va_W}
def f_X0_findFactors_L86 (zp : Int32) (ze : Int32) (zf : Int32) (zg : Int32) (aW : Nat → Int32) : Nat → (Nat → Int32) → Int32 → Int32 → Option ((Nat → Int32))
  | 0, _, _, _ => none
  | fu + 1, aF, v1, v2 =>
    if ze ≤ v2 then
    some aF
    else
    (f_X0_countMeetings zp ze aW aF v1 v2).bind fun z2 =>
    if zp = 0 then none else
    f_X0_findFactors_L86 zp ze zf zg aW fu z2 ((v1 * zg) - (v1 * zg) / zp * zp) (v2 + 1)
set_option maxHeartbeats 4000000 in
set_option maxRecDepth 100000 in
theorem w_X0_findFactors_L86  {zp : Int32} {ze : Int32} {zf : Int32} {zg : Int32} {zn : Int32} {aG : Nat → Int32} {aW : Nat → Int32} {aR : Nat → Int32} {aN : Nat → Int32} {lC : Nat → Int64} {lS : Nat → Int64} {lP : Nat → Int64} {lX : Nat → Int64}   (F : Fx p s m args meth c cX0_findFactors 5 RX0 none) (hA : ∀ q, s.heap.size ≤ q → A q)   : ∀ (fu : Nat) (aF : Nat → Int32) (v1 : Int32) (v2 : Int32) (z : (Nat → Int32)), f_X0_findFactors_L86 zp ze zf zg aW fu aF v1 v2 = some z → Ends p l e (rmOf 2 46) s m args below meth c Q cX0_findFactors G A none (none) (kW G q zp ze zf zg zn aG aW aR aN z lC lS lP lX ++ fr) → ∀ (H : Heap) (locs : List Loc) (ls : Array Slot), Wd G s A (kW G q zp ze zf zg zn aG aW aR aN aF lC lS lP lX ++ fr) H locs → lv_has ls 5 [(0, .ref (q 0)), (1, .int v1), (2, .int v2)] → W p l e (rmOf 2 46) s m args below meth c H locs 0 0 Q (F0 m 86 ls []) := by
  have hx := F.x
  have hb := F.b
  intro fu
  induction fu with
  | zero =>
    intro aF v1 v2 z h
    cases (h : none = some z)
  | succ fu ih =>
    intro aF v1 v2 z h hE H locs ls hw hl
    rw [f_X0_findFactors_L86] at h
    refine lv_iload_n hx hb dX0_findFactors_86 rfl (lv_at hl 2 rfl) ?_
    refine lv_aload_n hx hb dX0_findFactors_87 rfl (lv_at hl 0 rfl) ?_
    refine gf_0_48 F hw dX0_findFactors_88 ?_
    refine lv_icmp_ge (tgt := 118) hx hb dX0_findFactors_91 (by decide) (fun c1 => ?_) (fun c1 => ?_)
    · replace h := stT c1 h
      obtain rfl := Option.some.inj h
      exact hE H locs _ ls hw dX0_findFactors_118
    · replace h := stF c1 h
      refine lv_aload_n hx hb dX0_findFactors_94 rfl (lv_at hl 0 rfl) ?_
      refine lv_iload_n hx hb dX0_findFactors_95 rfl (lv_at hl 1 rfl) ?_
      refine lv_iload_n hx hb dX0_findFactors_96 rfl (lv_at hl 2 rfl) ?_
      obtain ⟨z2, hz2, h⟩ := stB h
      refine ctV (av := [.int v1, .int v2]) (st0 := ([] : List Value)) (st1 := ([] : List Value)) F hw hA (k_X0_countMeetings hz2) kl_0_97 kd_X0_countMeetings rfl ⟨by decide, by decide⟩ 0 rfl rfl hl.1 rfl (Nat.le_of_ble_eq_true rfl) dX0_findFactors_97 rfl (fun H locs hw => ?_)
      refine lv_iload_n hx hb dX0_findFactors_100 rfl (lv_at hl 1 rfl) ?_
      refine lv_aload_n hx hb dX0_findFactors_101 rfl (lv_at hl 0 rfl) ?_
      refine gf_0_67 F hw dX0_findFactors_102 ?_
      refine lv_imul hx hb dX0_findFactors_105 ?_
      refine lv_aload_n hx hb dX0_findFactors_106 rfl (lv_at hl 0 rfl) ?_
      refine gf_0_44 F hw dX0_findFactors_107 ?_
      obtain ⟨g3, h⟩ := stD h
      refine lv_irem hx hb dX0_findFactors_110 g3 ?_
      refine lv_istore_n (lv' := [(1, .int ((v1 * zg) - (v1 * zg) / zp * zp)), (0, .ref (q 0)), (2, .int v2)]) hx hb dX0_findFactors_111 rfl hl (by decide) rfl (fun ls hl => ?_)
      refine lv_iinc (v := (v2 + 1)) (lv' := [(2, .int (v2 + 1)), (1, .int ((v1 * zg) - (v1 * zg) / zp * zp)), (0, .ref (q 0))]) hx hb dX0_findFactors_112 hl (k := 2) rfl rfl (by decide) rfl (fun ls hl => ?_)
      refine lv_goto (tgt := 86) hx hb dX0_findFactors_115 (by decide) ?_
      exact ih _ _ _ z h hE H locs ls hw (lv_sub hl [2, 1, 0] rfl)
def f_X0_findFactors_L42 (zp : Int32) (ze : Int32) (zf : Int32) (zg : Int32) (aW : Nat → Int32) (KK : (Nat → Int32) → Int32 → Int32 → Option ((Nat → Int32))) : Nat → (Nat → Int32) → Int32 → Int32 → Int32 → Int32 → Option ((Nat → Int32))
  | 0, _, _, _, _, _ => none
  | fu + 1, aF, v1, v2, v3, v4 =>
    if ze ≤ v4 then
    KK aF v1 (v2 + 1)
    else
    (f_X4_factorIndex v1 v2 v4).bind fun z2 =>
    if inb z2 1728 then
    f_X0_findFactors_L42 zp ze zf zg aW KK fu (upd aF z2.toNatClampNeg v3) v1 v2 v3 (v4 + 1)
    else none
set_option maxHeartbeats 4000000 in
set_option maxRecDepth 100000 in
theorem w_X0_findFactors_L42  {zp : Int32} {ze : Int32} {zf : Int32} {zg : Int32} {zn : Int32} {aG : Nat → Int32} {aW : Nat → Int32} {aR : Nat → Int32} {aN : Nat → Int32} {lC : Nat → Int64} {lS : Nat → Int64} {lP : Nat → Int64} {lX : Nat → Int64}  {KK : (Nat → Int32) → Int32 → Int32 → Option ((Nat → Int32))} (F : Fx p s m args meth c cX0_findFactors 5 RX0 none) (hA : ∀ q, s.heap.size ≤ q → A q)  (hK : ∀ (aF : Nat → Int32) (v1 : Int32) (v2 : Int32) (z : (Nat → Int32)), KK aF v1 v2 = some z → Ends p l e (rmOf 2 46) s m args below meth c Q cX0_findFactors G A none (none) (kW G q zp ze zf zg zn aG aW aR aN z lC lS lP lX ++ fr) → ∀ (H : Heap) (locs : List Loc) (ls : Array Slot), Wd G s A (kW G q zp ze zf zg zn aG aW aR aN aF lC lS lP lX ++ fr) H locs → lv_has ls 5 [(0, .ref (q 0)), (1, .int v1), (2, .int v2)] → W p l e (rmOf 2 46) s m args below meth c H locs 0 0 Q (F0 m 12 ls [])) : ∀ (fu : Nat) (aF : Nat → Int32) (v1 : Int32) (v2 : Int32) (v3 : Int32) (v4 : Int32) (z : (Nat → Int32)), f_X0_findFactors_L42 zp ze zf zg aW KK fu aF v1 v2 v3 v4 = some z → Ends p l e (rmOf 2 46) s m args below meth c Q cX0_findFactors G A none (none) (kW G q zp ze zf zg zn aG aW aR aN z lC lS lP lX ++ fr) → ∀ (H : Heap) (locs : List Loc) (ls : Array Slot), Wd G s A (kW G q zp ze zf zg zn aG aW aR aN aF lC lS lP lX ++ fr) H locs → lv_has ls 5 [(0, .ref (q 0)), (1, .int v1), (2, .int v2), (3, .int v3), (4, .int v4)] → W p l e (rmOf 2 46) s m args below meth c H locs 0 0 Q (F0 m 42 ls []) := by
  have hx := F.x
  have hb := F.b
  intro fu
  induction fu with
  | zero =>
    intro aF v1 v2 v3 v4 z h
    cases (h : none = some z)
  | succ fu ih =>
    intro aF v1 v2 v3 v4 z h hE H locs ls hw hl
    rw [f_X0_findFactors_L42] at h
    refine lv_iload hx hb dX0_findFactors_42 (lv_at hl 4 rfl) ?_
    refine lv_aload_n hx hb dX0_findFactors_44 rfl (lv_at hl 0 rfl) ?_
    refine gf_0_48 F hw dX0_findFactors_45 ?_
    refine lv_icmp_ge (tgt := 70) hx hb dX0_findFactors_48 (by decide) (fun c1 => ?_) (fun c1 => ?_)
    · replace h := stT c1 h
      refine lv_iinc (v := (v2 + 1)) (lv' := [(2, .int (v2 + 1)), (0, .ref (q 0)), (1, .int v1), (3, .int v3), (4, .int v4)]) hx hb dX0_findFactors_70 hl (k := 2) rfl rfl (by decide) rfl (fun ls hl => ?_)
      refine lv_goto (tgt := 12) hx hb dX0_findFactors_73 (by decide) ?_
      exact hK _ _ _ z h hE H locs ls hw (lv_sub hl [1, 2, 0] rfl)
    · replace h := stF c1 h
      refine lv_aload_n hx hb dX0_findFactors_51 rfl (lv_at hl 0 rfl) ?_
      refine gf_0_24 F hw dX0_findFactors_52 ?_
      refine lv_iload_n hx hb dX0_findFactors_55 rfl (lv_at hl 1 rfl) ?_
      refine lv_iload_n hx hb dX0_findFactors_56 rfl (lv_at hl 2 rfl) ?_
      refine lv_iload hx hb dX0_findFactors_57 (lv_at hl 4 rfl) ?_
      obtain ⟨z2, hz2, h⟩ := stB h
      refine ctSN (av := [.int v1, .int v2, .int v4]) (st0 := ([.ref (q 5)] : List Value)) (st1 := ([.int z2, .ref (q 5)] : List Value)) (host := RX4) F hw hA (k_X4_factorIndex hz2) (by decide +kernel) kn_X4_factorIndex ki_4 ks_X4_factorIndex kd_X4_factorIndex rfl ⟨by decide, by decide⟩ hl.1 rfl (Nat.le_of_ble_eq_true rfl) dX0_findFactors_59 rfl (fun H locs hw => ?_)
      refine lv_iload_n hx hb dX0_findFactors_62 rfl (lv_at hl 3 rfl) ?_
      obtain ⟨g3, h⟩ := stG h
      refine as_c5 F hw g3 dX0_findFactors_63 (fun H locs hw => ?_)
      refine lv_iinc (v := (v4 + 1)) (lv' := [(4, .int (v4 + 1)), (0, .ref (q 0)), (1, .int v1), (2, .int v2), (3, .int v3)]) hx hb dX0_findFactors_64 hl (k := 4) rfl rfl (by decide) rfl (fun ls hl => ?_)
      refine lv_goto (tgt := 42) hx hb dX0_findFactors_67 (by decide) ?_
      exact ih _ _ _ _ _ z h hE H locs ls hw (lv_sub hl [1, 2, 3, 4, 0] rfl)
def f_X0_findFactors_L12 (zp : Int32) (ze : Int32) (zf : Int32) (zg : Int32) (aW : Nat → Int32) (KK : (Nat → Int32) → Int32 → Option ((Nat → Int32))) : Nat → (Nat → Int32) → Int32 → Int32 → Option ((Nat → Int32))
  | 0, _, _, _ => none
  | fu + 1, aF, v1, v2 =>
    if ze ≤ v2 then
    KK aF (v1 + 1)
    else
    (f_X0_oppositeOf zp ze v1).bind fun z2 =>
    if z2 = v2 then
    f_X0_findFactors_L42 zp ze zf zg aW (fun w0 w1 w2 => f_X0_findFactors_L12 zp ze zf zg aW KK fu w0 w1 w2) FU aF v1 v2 (-zf) 0
    else
    f_X0_findFactors_L42 zp ze zf zg aW (fun w0 w1 w2 => f_X0_findFactors_L12 zp ze zf zg aW KK fu w0 w1 w2) FU aF v1 v2 0 0
set_option maxHeartbeats 4000000 in
set_option maxRecDepth 100000 in
theorem w_X0_findFactors_L12  {zp : Int32} {ze : Int32} {zf : Int32} {zg : Int32} {zn : Int32} {aG : Nat → Int32} {aW : Nat → Int32} {aR : Nat → Int32} {aN : Nat → Int32} {lC : Nat → Int64} {lS : Nat → Int64} {lP : Nat → Int64} {lX : Nat → Int64}  {KK : (Nat → Int32) → Int32 → Option ((Nat → Int32))} (F : Fx p s m args meth c cX0_findFactors 5 RX0 none) (hA : ∀ q, s.heap.size ≤ q → A q)  (hK : ∀ (aF : Nat → Int32) (v1 : Int32) (z : (Nat → Int32)), KK aF v1 = some z → Ends p l e (rmOf 2 46) s m args below meth c Q cX0_findFactors G A none (none) (kW G q zp ze zf zg zn aG aW aR aN z lC lS lP lX ++ fr) → ∀ (H : Heap) (locs : List Loc) (ls : Array Slot), Wd G s A (kW G q zp ze zf zg zn aG aW aR aN aF lC lS lP lX ++ fr) H locs → lv_has ls 5 [(0, .ref (q 0)), (1, .int v1)] → W p l e (rmOf 2 46) s m args below meth c H locs 0 0 Q (F0 m 2 ls [])) : ∀ (fu : Nat) (aF : Nat → Int32) (v1 : Int32) (v2 : Int32) (z : (Nat → Int32)), f_X0_findFactors_L12 zp ze zf zg aW KK fu aF v1 v2 = some z → Ends p l e (rmOf 2 46) s m args below meth c Q cX0_findFactors G A none (none) (kW G q zp ze zf zg zn aG aW aR aN z lC lS lP lX ++ fr) → ∀ (H : Heap) (locs : List Loc) (ls : Array Slot), Wd G s A (kW G q zp ze zf zg zn aG aW aR aN aF lC lS lP lX ++ fr) H locs → lv_has ls 5 [(0, .ref (q 0)), (1, .int v1), (2, .int v2)] → W p l e (rmOf 2 46) s m args below meth c H locs 0 0 Q (F0 m 12 ls []) := by
  have hx := F.x
  have hb := F.b
  intro fu
  induction fu with
  | zero =>
    intro aF v1 v2 z h
    cases (h : none = some z)
  | succ fu ih =>
    intro aF v1 v2 z h hE H locs ls hw hl
    rw [f_X0_findFactors_L12] at h
    refine lv_iload_n hx hb dX0_findFactors_12 rfl (lv_at hl 2 rfl) ?_
    refine lv_aload_n hx hb dX0_findFactors_13 rfl (lv_at hl 0 rfl) ?_
    refine gf_0_48 F hw dX0_findFactors_14 ?_
    refine lv_icmp_ge (tgt := 76) hx hb dX0_findFactors_17 (by decide) (fun c1 => ?_) (fun c1 => ?_)
    · replace h := stT c1 h
      refine lv_iinc (v := (v1 + 1)) (lv' := [(1, .int (v1 + 1)), (0, .ref (q 0)), (2, .int v2)]) hx hb dX0_findFactors_76 hl (k := 1) rfl rfl (by decide) rfl (fun ls hl => ?_)
      refine lv_goto (tgt := 2) hx hb dX0_findFactors_79 (by decide) ?_
      exact hK _ _ z h hE H locs ls hw (lv_sub hl [1, 0] rfl)
    · replace h := stF c1 h
      refine lv_aload_n hx hb dX0_findFactors_20 rfl (lv_at hl 0 rfl) ?_
      refine lv_iload_n hx hb dX0_findFactors_21 rfl (lv_at hl 1 rfl) ?_
      obtain ⟨z2, hz2, h⟩ := stB h
      refine ctV (av := [.int v1]) (st0 := ([] : List Value)) (st1 := ([.int z2] : List Value)) F hw hA (k_X0_oppositeOf hz2) kl_0_90 kd_X0_oppositeOf rfl ⟨by decide, by decide⟩ 0 rfl rfl hl.1 rfl (Nat.le_of_ble_eq_true rfl) dX0_findFactors_22 rfl (fun H locs hw => ?_)
      refine lv_iload_n hx hb dX0_findFactors_25 rfl (lv_at hl 2 rfl) ?_
      refine lv_icmp_ne (tgt := 37) hx hb dX0_findFactors_26 (by decide) (fun c3 => ?_) (fun c3 => ?_)
      · replace h := stF c3 h
        refine lv_iconst (v := 0) hx hb dX0_findFactors_37 (by decide) ?_
        refine lv_istore_n (lv' := [(3, .int 0), (0, .ref (q 0)), (1, .int v1), (2, .int v2)]) hx hb dX0_findFactors_38 rfl hl (by decide) rfl (fun ls hl => ?_)
        refine lv_iconst (v := 0) hx hb dX0_findFactors_39 (by decide) ?_
        refine lv_istore (lv' := [(4, .int 0), (3, .int 0), (0, .ref (q 0)), (1, .int v1), (2, .int v2)]) hx hb dX0_findFactors_40 hl (by decide) rfl (fun ls hl => ?_)
        exact w_X0_findFactors_L42 F hA  (fun w0 w1 w2 z h hE H locs ls hw hl => ih w0 w1 w2 z h hE H locs ls hw hl) FU _ _ _ _ _ z h hE H locs ls hw (lv_sub hl [2, 3, 4, 1, 0] rfl)
      · replace h := stT c3 h
        refine lv_aload_n hx hb dX0_findFactors_29 rfl (lv_at hl 0 rfl) ?_
        refine gf_0_51 F hw dX0_findFactors_30 ?_
        refine lv_ineg hx hb dX0_findFactors_33 ?_
        refine lv_goto (tgt := 38) hx hb dX0_findFactors_34 (by decide) ?_
        refine lv_istore_n (lv' := [(3, .int (-zf)), (0, .ref (q 0)), (1, .int v1), (2, .int v2)]) hx hb dX0_findFactors_38 rfl hl (by decide) rfl (fun ls hl => ?_)
        refine lv_iconst (v := 0) hx hb dX0_findFactors_39 (by decide) ?_
        refine lv_istore (lv' := [(4, .int 0), (3, .int (-zf)), (0, .ref (q 0)), (1, .int v1), (2, .int v2)]) hx hb dX0_findFactors_40 hl (by decide) rfl (fun ls hl => ?_)
        exact w_X0_findFactors_L42 F hA  (fun w0 w1 w2 z h hE H locs ls hw hl => ih w0 w1 w2 z h hE H locs ls hw hl) FU _ _ _ _ _ z h hE H locs ls hw (lv_sub hl [2, 3, 4, 1, 0] rfl)
def f_X0_findFactors_L2 (zp : Int32) (ze : Int32) (zf : Int32) (zg : Int32) (aW : Nat → Int32) : Nat → (Nat → Int32) → Int32 → Option ((Nat → Int32))
  | 0, _, _ => none
  | fu + 1, aF, v1 =>
    if ze ≤ v1 then
    f_X0_findFactors_L86 zp ze zf zg aW FU aF 1 0
    else
    f_X0_findFactors_L12 zp ze zf zg aW (fun w0 w1 => f_X0_findFactors_L2 zp ze zf zg aW fu w0 w1) FU aF v1 0
set_option maxHeartbeats 4000000 in
set_option maxRecDepth 100000 in
theorem w_X0_findFactors_L2  {zp : Int32} {ze : Int32} {zf : Int32} {zg : Int32} {zn : Int32} {aG : Nat → Int32} {aW : Nat → Int32} {aR : Nat → Int32} {aN : Nat → Int32} {lC : Nat → Int64} {lS : Nat → Int64} {lP : Nat → Int64} {lX : Nat → Int64}   (F : Fx p s m args meth c cX0_findFactors 5 RX0 none) (hA : ∀ q, s.heap.size ≤ q → A q)   : ∀ (fu : Nat) (aF : Nat → Int32) (v1 : Int32) (z : (Nat → Int32)), f_X0_findFactors_L2 zp ze zf zg aW fu aF v1 = some z → Ends p l e (rmOf 2 46) s m args below meth c Q cX0_findFactors G A none (none) (kW G q zp ze zf zg zn aG aW aR aN z lC lS lP lX ++ fr) → ∀ (H : Heap) (locs : List Loc) (ls : Array Slot), Wd G s A (kW G q zp ze zf zg zn aG aW aR aN aF lC lS lP lX ++ fr) H locs → lv_has ls 5 [(0, .ref (q 0)), (1, .int v1)] → W p l e (rmOf 2 46) s m args below meth c H locs 0 0 Q (F0 m 2 ls []) := by
  have hx := F.x
  have hb := F.b
  intro fu
  induction fu with
  | zero =>
    intro aF v1 z h
    cases (h : none = some z)
  | succ fu ih =>
    intro aF v1 z h hE H locs ls hw hl
    rw [f_X0_findFactors_L2] at h
    refine lv_iload_n hx hb dX0_findFactors_2 rfl (lv_at hl 1 rfl) ?_
    refine lv_aload_n hx hb dX0_findFactors_3 rfl (lv_at hl 0 rfl) ?_
    refine gf_0_48 F hw dX0_findFactors_4 ?_
    refine lv_icmp_ge (tgt := 82) hx hb dX0_findFactors_7 (by decide) (fun c1 => ?_) (fun c1 => ?_)
    · replace h := stT c1 h
      refine lv_iconst (v := 1) hx hb dX0_findFactors_82 (by decide) ?_
      refine lv_istore_n (lv' := [(1, .int 1), (0, .ref (q 0))]) hx hb dX0_findFactors_83 rfl hl (by decide) rfl (fun ls hl => ?_)
      refine lv_iconst (v := 0) hx hb dX0_findFactors_84 (by decide) ?_
      refine lv_istore_n (lv' := [(2, .int 0), (1, .int 1), (0, .ref (q 0))]) hx hb dX0_findFactors_85 rfl hl (by decide) rfl (fun ls hl => ?_)
      exact w_X0_findFactors_L86 F hA  FU _ _ _ z h hE H locs ls hw (lv_sub hl [2, 1, 0] rfl)
    · replace h := stF c1 h
      refine lv_iconst (v := 0) hx hb dX0_findFactors_10 (by decide) ?_
      refine lv_istore_n (lv' := [(2, .int 0), (0, .ref (q 0)), (1, .int v1)]) hx hb dX0_findFactors_11 rfl hl (by decide) rfl (fun ls hl => ?_)
      exact w_X0_findFactors_L12 F hA  (fun w0 w1 z h hE H locs ls hw hl => ih w0 w1 z h hE H locs ls hw hl) FU _ _ _ z h hE H locs ls hw (lv_sub hl [1, 2, 0] rfl)
def f_X0_findFactors (zp : Int32) (ze : Int32) (zf : Int32) (zg : Int32) (aW : Nat → Int32) (aF : Nat → Int32) : Option ((Nat → Int32)) :=
  f_X0_findFactors_L2 zp ze zf zg aW FU aF 0
set_option maxHeartbeats 4000000 in
set_option maxRecDepth 100000 in
theorem k_X0_findFactors {l : Launch} {G : GG} {q : Nat → Nat} {fr : va_W}  {zp : Int32} {ze : Int32} {zf : Int32} {zg : Int32} {zn : Int32} {aG : Nat → Int32} {aW : Nat → Int32} {aR : Nat → Int32} {aN : Nat → Int32} {aF : Nat → Int32} {lC : Nat → Int64} {lS : Nat → Int64} {lP : Nat → Int64} {lX : Nat → Int64}  {z : (Nat → Int32)}  (h : f_X0_findFactors zp ze zf zg aW aF = some z) : Ct l G yX0_findFactors cX0_findFactors 5 none 2 46 [.ref (q 0)] (kW G q zp ze zf zg zn aG aW aR aN aF lC lS lP lX ++ fr) (none) (kW G q zp ze zf zg zn aG aW aR aN z lC lS lP lX ++ fr) := by
  refine Ct.of (by decide +kernel) (Nat.le_of_ble_eq_true rfl) trivial ?_
  intro p e s m args below meth c Q A ls F hw hA hE hl
  have hx := F.x
  have hb := F.b
  unfold f_X0_findFactors at h
  obtain ⟨H, hH⟩ : ∃ H, H = s.heap := ⟨_, rfl⟩
  obtain ⟨locs, hlo⟩ : ∃ locs : List Loc, locs = [] := ⟨_, rfl⟩
  rw [← hH, ← hlo] at hw ⊢
  have hl : lv_has ls 5 [(0, .ref (q 0))] := hl
  refine lv_iconst (v := 0) hx hb dX0_findFactors_0 (by decide) ?_
  refine lv_istore_n (lv' := [(1, .int 0), (0, .ref (q 0))]) hx hb dX0_findFactors_1 rfl hl (by decide) rfl (fun ls hl => ?_)
  exact w_X0_findFactors_L2 F hA  FU _ _ z h hE H locs ls hw (lv_sub hl [1, 0] rfl)
end
theorem dX0_takeGenerator_0 : decode cX0_takeGenerator 0 = .ok (.aload_n 0, 1) := by decide +kernel
theorem dX0_takeGenerator_1 : decode cX0_takeGenerator 1 = .ok (.iload_n 1, 1) := by decide +kernel
theorem dX0_takeGenerator_2 : decode cX0_takeGenerator 2 = .ok (.putfield 67, 3) := by decide +kernel
theorem dX0_takeGenerator_5 : decode cX0_takeGenerator 5 = .ok (.aload_n 0, 1) := by decide +kernel
theorem dX0_takeGenerator_6 : decode cX0_takeGenerator 6 = .ok (.invokevirtual 70, 3) := by decide +kernel
theorem dX0_takeGenerator_9 : decode cX0_takeGenerator 9 = .ok (.aload_n 0, 1) := by decide +kernel
theorem dX0_takeGenerator_10 : decode cX0_takeGenerator 10 = .ok (.invokevirtual 73, 3) := by decide +kernel
theorem dX0_takeGenerator_13 : decode cX0_takeGenerator 13 = .ok (.aload_n 0, 1) := by decide +kernel
theorem dX0_takeGenerator_14 : decode cX0_takeGenerator 14 = .ok (.invokevirtual 76, 3) := by decide +kernel
theorem dX0_takeGenerator_17 : decode cX0_takeGenerator 17 = .ok (.return_, 1) := by decide +kernel
section
variable {p : Program} {l : Launch} {e : Env} {s : State} {m : MethodId} {args : Array Value} {below : List Frame} {meth : Method} {c : Code} {Q : State → Prop} {G : GG} {A : Nat → Prop} {q : Nat → Nat} {fr : va_W}
def f_X0_takeGenerator (zp : Int32) (ze : Int32) (zf : Int32) (zg : Int32) (aW : Nat → Int32) (aN : Nat → Int32) (aF : Nat → Int32) (v1 : Int32) : Option (Int32 × (Nat → Int32) × (Nat → Int32) × (Nat → Int32)) :=
  (f_X0_findPowers zp v1 aW).bind fun z1 =>
  (f_X0_findNeighbours zp ze z1 aN).bind fun z2 =>
  (f_X0_findFactors zp ze zf v1 z1 aF).bind fun z3 =>
  some (v1, z1, z2, z3)
set_option maxHeartbeats 4000000 in
set_option maxRecDepth 100000 in
theorem k_X0_takeGenerator {l : Launch} {G : GG} {q : Nat → Nat} {fr : va_W}  {zp : Int32} {ze : Int32} {zf : Int32} {zg : Int32} {zn : Int32} {aG : Nat → Int32} {aW : Nat → Int32} {aR : Nat → Int32} {aN : Nat → Int32} {aF : Nat → Int32} {lC : Nat → Int64} {lS : Nat → Int64} {lP : Nat → Int64} {lX : Nat → Int64} {v1 : Int32} {z : Int32 × (Nat → Int32) × (Nat → Int32) × (Nat → Int32)}  (h : f_X0_takeGenerator zp ze zf zg aW aN aF v1 = some z) : Ct l G yX0_takeGenerator cX0_takeGenerator 2 none 3 70 [.ref (q 0), .int v1] (kW G q zp ze zf zg zn aG aW aR aN aF lC lS lP lX ++ fr) (none) (kW G q zp ze zf z.1 zn aG z.2.1 aR z.2.2.1 z.2.2.2 lC lS lP lX ++ fr) := by
  refine Ct.of (by decide +kernel) (Nat.le_of_ble_eq_true rfl) trivial ?_
  intro p e s m args below meth c Q A ls F hw hA hE hl
  have hx := F.x
  have hb := F.b
  unfold f_X0_takeGenerator at h
  obtain ⟨H, hH⟩ : ∃ H, H = s.heap := ⟨_, rfl⟩
  obtain ⟨locs, hlo⟩ : ∃ locs : List Loc, locs = [] := ⟨_, rfl⟩
  rw [← hH, ← hlo] at hw ⊢
  have hl : lv_has ls 2 [(0, .ref (q 0)), (1, .int v1)] := hl
  refine lv_aload_n hx hb dX0_takeGenerator_0 rfl (lv_at hl 0 rfl) ?_
  refine lv_iload_n hx hb dX0_takeGenerator_1 rfl (lv_at hl 1 rfl) ?_
  refine pf_0_67 F hw dX0_takeGenerator_2 (fun H locs hw => ?_)
  refine lv_aload_n hx hb dX0_takeGenerator_5 rfl (lv_at hl 0 rfl) ?_
  obtain ⟨z1, hz1, h⟩ := stB h
  refine ctV (av := []) (st0 := ([] : List Value)) (st1 := ([] : List Value)) F hw hA (k_X0_findPowers hz1) kl_0_70 kd_X0_findPowers rfl ⟨by decide, by decide⟩ 0 rfl rfl hl.1 rfl (Nat.le_of_ble_eq_true rfl) dX0_takeGenerator_6 rfl (fun H locs hw => ?_)
  refine lv_aload_n hx hb dX0_takeGenerator_9 rfl (lv_at hl 0 rfl) ?_
  obtain ⟨z2, hz2, h⟩ := stB h
  refine ctV (av := []) (st0 := ([] : List Value)) (st1 := ([] : List Value)) F hw hA (k_X0_findNeighbours hz2) kl_0_73 kd_X0_findNeighbours rfl ⟨by decide, by decide⟩ 0 rfl rfl hl.1 rfl (Nat.le_of_ble_eq_true rfl) dX0_takeGenerator_10 rfl (fun H locs hw => ?_)
  refine lv_aload_n hx hb dX0_takeGenerator_13 rfl (lv_at hl 0 rfl) ?_
  obtain ⟨z3, hz3, h⟩ := stB h
  refine ctV (av := []) (st0 := ([] : List Value)) (st1 := ([] : List Value)) F hw hA (k_X0_findFactors hz3) kl_0_76 kd_X0_findFactors rfl ⟨by decide, by decide⟩ 0 rfl rfl hl.1 rfl (Nat.le_of_ble_eq_true rfl) dX0_takeGenerator_14 rfl (fun H locs hw => ?_)
  obtain rfl := Option.some.inj h
  exact hE H locs _ ls hw dX0_takeGenerator_17
end
