/-! printed by wip/whole/mk.py: the functions that mirror the bytecode, and the contracts over them -/
theorem dX5_in_0 : decode cX5_in 0 = .ok (.lload_n 0, 1) := by decide +kernel
theorem dX5_in_1 : decode cX5_in 1 = .ok (.lload_n 2, 1) := by decide +kernel
theorem dX5_in_2 : decode cX5_in 2 = .ok (.lcmp, 1) := by decide +kernel
theorem dX5_in_3 : decode cX5_in 3 = .ok (.ifCond .lt 14, 3) := by decide +kernel
theorem dX5_in_6 : decode cX5_in 6 = .ok (.lload_n 0, 1) := by decide +kernel
theorem dX5_in_7 : decode cX5_in 7 = .ok (.lload 4, 2) := by decide +kernel
theorem dX5_in_9 : decode cX5_in 9 = .ok (.lcmp, 1) := by decide +kernel
theorem dX5_in_10 : decode cX5_in 10 = .ok (.ifCond .gt 7, 3) := by decide +kernel
theorem dX5_in_13 : decode cX5_in 13 = .ok (.iconst 1, 1) := by decide +kernel
theorem dX5_in_14 : decode cX5_in 14 = .ok (.goto 4, 3) := by decide +kernel
theorem dX5_in_17 : decode cX5_in 17 = .ok (.iconst 0, 1) := by decide +kernel
theorem dX5_in_18 : decode cX5_in 18 = .ok (.ireturn, 1) := by decide +kernel
section
variable {p : Program} {l : Launch} {e : Env} {s : State} {m : MethodId} {args : Array Value} {below : List Frame} {meth : Method} {c : Code} {Q : State → Prop} {G : GG} {A : Nat → Prop} {q : Nat → Nat} {fr : va_W}
def f_X5_in (v0 : Int64) (v2 : Int64) (v4 : Int64) : Option (Int32) :=
  if (lg_cmp v0 v2) < 0 then
  some 0
  else
  if 0 < (lg_cmp v0 v4) then
  some 0
  else
  some 1
set_option maxHeartbeats 4000000 in
set_option maxRecDepth 100000 in
theorem k_X5_in {l : Launch} {G : GG} {fr : va_W}   {v0 : Int64} {v2 : Int64} {v4 : Int64} {z : Int32}  (h : f_X5_in v0 v2 v4 = some z) : Ct l G yX5_in cX5_in 6 (some .boolean) 0 0 [.long v0, .long v2, .long v4] fr (some (.int z)) fr := by
  refine Ct.of (by decide +kernel) (Nat.le_of_ble_eq_true rfl) trivial ?_
  intro p e s m args below meth c Q A ls F hw hA hE hl
  have hx := F.x
  have hb := F.b
  unfold f_X5_in at h
  obtain ⟨H, hH⟩ : ∃ H, H = s.heap := ⟨_, rfl⟩
  obtain ⟨locs, hlo⟩ : ∃ locs : List Loc, locs = [] := ⟨_, rfl⟩
  rw [← hH, ← hlo] at hw ⊢
  have hl : lv_has ls 6 [(0, .long v0), (2, .long v2), (4, .long v4)] := hl
  refine lv_lload_n hx hb dX5_in_0 rfl (lv_at hl 0 rfl) ?_
  refine lv_lload_n hx hb dX5_in_1 rfl (lv_at hl 1 rfl) ?_
  refine W.lcmp hx hb dX5_in_2 ?_
  refine lv_if_lt (tgt := 17) hx hb dX5_in_3 (by decide) (fun c1 => ?_) (fun c1 => ?_)
  · replace h := stT c1 h
    refine lv_iconst (v := 0) hx hb dX5_in_17 (by decide) ?_
    obtain rfl := Option.some.inj h
    exact hE H locs _ ls hw (Or.inl rfl) dX5_in_18
  · replace h := stF c1 h
    refine lv_lload_n hx hb dX5_in_6 rfl (lv_at hl 0 rfl) ?_
    refine lv_lload hx hb dX5_in_7 (lv_at hl 2 rfl) ?_
    refine W.lcmp hx hb dX5_in_9 ?_
    refine lv_if_gt (tgt := 17) hx hb dX5_in_10 (by decide) (fun c2 => ?_) (fun c2 => ?_)
    · replace h := stT c2 h
      refine lv_iconst (v := 0) hx hb dX5_in_17 (by decide) ?_
      obtain rfl := Option.some.inj h
      exact hE H locs _ ls hw (Or.inl rfl) dX5_in_18
    · replace h := stF c2 h
      refine lv_iconst (v := 1) hx hb dX5_in_13 (by decide) ?_
      refine lv_goto (tgt := 18) hx hb dX5_in_14 (by decide) ?_
      obtain rfl := Option.some.inj h
      exact hE H locs _ ls hw (Or.inr rfl) dX5_in_18
end
theorem dX5_bit_0 : decode cX5_bit 0 = .ok (.iload_n 0, 1) := by decide +kernel
theorem dX5_bit_1 : decode cX5_bit 1 = .ok (.ifCond .eq 7, 3) := by decide +kernel
theorem dX5_bit_4 : decode cX5_bit 4 = .ok (.iconst 1, 1) := by decide +kernel
theorem dX5_bit_5 : decode cX5_bit 5 = .ok (.goto 4, 3) := by decide +kernel
theorem dX5_bit_8 : decode cX5_bit 8 = .ok (.iconst 0, 1) := by decide +kernel
theorem dX5_bit_9 : decode cX5_bit 9 = .ok (.ireturn, 1) := by decide +kernel
section
variable {p : Program} {l : Launch} {e : Env} {s : State} {m : MethodId} {args : Array Value} {below : List Frame} {meth : Method} {c : Code} {Q : State → Prop} {G : GG} {A : Nat → Prop} {q : Nat → Nat} {fr : va_W}
def f_X5_bit (v0 : Int32) : Option (Int32) :=
  if v0 = 0 then
  some 0
  else
  some 1
set_option maxHeartbeats 4000000 in
set_option maxRecDepth 100000 in
theorem k_X5_bit {l : Launch} {G : GG} {fr : va_W}   {v0 : Int32} {z : Int32}  (h : f_X5_bit v0 = some z) : Ct l G yX5_bit cX5_bit 1 (some .int) 0 0 [.int v0] fr (some (.int z)) fr := by
  refine Ct.of (by decide +kernel) (Nat.le_of_ble_eq_true rfl) trivial ?_
  intro p e s m args below meth c Q A ls F hw hA hE hl
  have hx := F.x
  have hb := F.b
  unfold f_X5_bit at h
  obtain ⟨H, hH⟩ : ∃ H, H = s.heap := ⟨_, rfl⟩
  obtain ⟨locs, hlo⟩ : ∃ locs : List Loc, locs = [] := ⟨_, rfl⟩
  rw [← hH, ← hlo] at hw ⊢
  have hl : lv_has ls 1 [(0, .int v0)] := hl
  refine lv_iload_n hx hb dX5_bit_0 rfl (lv_at hl 0 rfl) ?_
  refine lv_if_eq (tgt := 8) hx hb dX5_bit_1 (by decide) (fun c1 => ?_) (fun c1 => ?_)
  · replace h := stT c1 h
    refine lv_iconst (v := 0) hx hb dX5_bit_8 (by decide) ?_
    obtain rfl := Option.some.inj h
    exact hE H locs _ ls hw dX5_bit_9
  · replace h := stF c1 h
    refine lv_iconst (v := 1) hx hb dX5_bit_4 (by decide) ?_
    refine lv_goto (tgt := 9) hx hb dX5_bit_5 (by decide) ?_
    obtain rfl := Option.some.inj h
    exact hE H locs _ ls hw dX5_bit_9
end
theorem dX5_isPrime_0 : decode cX5_isPrime 0 = .ok (.iconst 2, 1) := by decide +kernel
theorem dX5_isPrime_1 : decode cX5_isPrime 1 = .ok (.istore_n 1, 1) := by decide +kernel
theorem dX5_isPrime_2 : decode cX5_isPrime 2 = .ok (.iload_n 1, 1) := by decide +kernel
theorem dX5_isPrime_3 : decode cX5_isPrime 3 = .ok (.iload_n 1, 1) := by decide +kernel
theorem dX5_isPrime_4 : decode cX5_isPrime 4 = .ok (.imul, 1) := by decide +kernel
theorem dX5_isPrime_5 : decode cX5_isPrime 5 = .ok (.iload_n 0, 1) := by decide +kernel
theorem dX5_isPrime_6 : decode cX5_isPrime 6 = .ok (.if_icmp .gt 17, 3) := by decide +kernel
theorem dX5_isPrime_9 : decode cX5_isPrime 9 = .ok (.iload_n 0, 1) := by decide +kernel
theorem dX5_isPrime_10 : decode cX5_isPrime 10 = .ok (.iload_n 1, 1) := by decide +kernel
theorem dX5_isPrime_11 : decode cX5_isPrime 11 = .ok (.irem, 1) := by decide +kernel
theorem dX5_isPrime_12 : decode cX5_isPrime 12 = .ok (.ifCond .ne 5, 3) := by decide +kernel
theorem dX5_isPrime_15 : decode cX5_isPrime 15 = .ok (.iconst 0, 1) := by decide +kernel
theorem dX5_isPrime_16 : decode cX5_isPrime 16 = .ok (.ireturn, 1) := by decide +kernel
theorem dX5_isPrime_17 : decode cX5_isPrime 17 = .ok (.iinc 1 1, 3) := by decide +kernel
theorem dX5_isPrime_20 : decode cX5_isPrime 20 = .ok (.goto (-18), 3) := by decide +kernel
theorem dX5_isPrime_23 : decode cX5_isPrime 23 = .ok (.iload_n 0, 1) := by decide +kernel
theorem dX5_isPrime_24 : decode cX5_isPrime 24 = .ok (.iconst 2, 1) := by decide +kernel
theorem dX5_isPrime_25 : decode cX5_isPrime 25 = .ok (.if_icmp .le 7, 3) := by decide +kernel
theorem dX5_isPrime_28 : decode cX5_isPrime 28 = .ok (.iconst 1, 1) := by decide +kernel
theorem dX5_isPrime_29 : decode cX5_isPrime 29 = .ok (.goto 4, 3) := by decide +kernel
theorem dX5_isPrime_32 : decode cX5_isPrime 32 = .ok (.iconst 0, 1) := by decide +kernel
theorem dX5_isPrime_33 : decode cX5_isPrime 33 = .ok (.ireturn, 1) := by decide +kernel
section
variable {p : Program} {l : Launch} {e : Env} {s : State} {m : MethodId} {args : Array Value} {below : List Frame} {meth : Method} {c : Code} {Q : State → Prop} {G : GG} {A : Nat → Prop} {q : Nat → Nat} {fr : va_W}
def f_X5_isPrime_L2 (v0 : Int32) : Nat → Int32 → Option (Int32)
  | 0, _ => none
  | fu + 1, v1 =>
    if v0 < (v1 * v1) then
    if v0 ≤ 2 then
    some 0
    else
    some 1
    else
    if v1 = 0 then none else
    if (v0 - v0 / v1 * v1) = 0 then
    some 0
    else
    f_X5_isPrime_L2 v0 fu (v1 + 1)
set_option maxHeartbeats 4000000 in
set_option maxRecDepth 100000 in
theorem w_X5_isPrime_L2   {v0 : Int32}  (F : Fx p s m args meth c cX5_isPrime 2 RX5 (some .boolean)) (hA : ∀ q, s.heap.size ≤ q → A q)   : ∀ (fu : Nat) (v1 : Int32) (z : Int32), f_X5_isPrime_L2 v0 fu v1 = some z → Ends p l e (rmOf 0 0) s m args below meth c Q cX5_isPrime G A (some .boolean) (some (.int z)) fr → ∀ (H : Heap) (locs : List Loc) (ls : Array Slot), Wd G s A fr H locs → lv_has ls 2 [(0, .int v0), (1, .int v1)] → W p l e (rmOf 0 0) s m args below meth c H locs 0 0 Q (F0 m 2 ls []) := by
  have hx := F.x
  have hb := F.b
  intro fu
  induction fu with
  | zero =>
    intro v1 z h
    cases (h : none = some z)
  | succ fu ih =>
    intro v1 z h hE H locs ls hw hl
    rw [f_X5_isPrime_L2] at h
    refine lv_iload_n hx hb dX5_isPrime_2 rfl (lv_at hl 1 rfl) ?_
    refine lv_iload_n hx hb dX5_isPrime_3 rfl (lv_at hl 1 rfl) ?_
    refine lv_imul hx hb dX5_isPrime_4 ?_
    refine lv_iload_n hx hb dX5_isPrime_5 rfl (lv_at hl 0 rfl) ?_
    refine lv_icmp_gt (tgt := 23) hx hb dX5_isPrime_6 (by decide) (fun c1 => ?_) (fun c1 => ?_)
    · replace h := stT c1 h
      refine lv_iload_n hx hb dX5_isPrime_23 rfl (lv_at hl 0 rfl) ?_
      refine lv_iconst (v := 2) hx hb dX5_isPrime_24 (by decide) ?_
      refine lv_icmp_le (tgt := 32) hx hb dX5_isPrime_25 (by decide) (fun c2 => ?_) (fun c2 => ?_)
      · replace h := stT c2 h
        refine lv_iconst (v := 0) hx hb dX5_isPrime_32 (by decide) ?_
        obtain rfl := Option.some.inj h
        exact hE H locs _ ls hw (Or.inl rfl) dX5_isPrime_33
      · replace h := stF c2 h
        refine lv_iconst (v := 1) hx hb dX5_isPrime_28 (by decide) ?_
        refine lv_goto (tgt := 33) hx hb dX5_isPrime_29 (by decide) ?_
        obtain rfl := Option.some.inj h
        exact hE H locs _ ls hw (Or.inr rfl) dX5_isPrime_33
    · replace h := stF c1 h
      refine lv_iload_n hx hb dX5_isPrime_9 rfl (lv_at hl 0 rfl) ?_
      refine lv_iload_n hx hb dX5_isPrime_10 rfl (lv_at hl 1 rfl) ?_
      obtain ⟨g3, h⟩ := stD h
      refine lv_irem hx hb dX5_isPrime_11 g3 ?_
      refine lv_if_ne (tgt := 17) hx hb dX5_isPrime_12 (by decide) (fun c4 => ?_) (fun c4 => ?_)
      · replace h := stF c4 h
        refine lv_iinc (v := (v1 + 1)) (lv' := [(1, .int (v1 + 1)), (0, .int v0)]) hx hb dX5_isPrime_17 hl (k := 1) rfl rfl (by decide) rfl (fun ls hl => ?_)
        refine lv_goto (tgt := 2) hx hb dX5_isPrime_20 (by decide) ?_
        exact ih _ z h hE H locs ls hw (lv_sub hl [1, 0] rfl)
      · replace h := stT c4 h
        refine lv_iconst (v := 0) hx hb dX5_isPrime_15 (by decide) ?_
        obtain rfl := Option.some.inj h
        exact hE H locs _ ls hw (Or.inl rfl) dX5_isPrime_16
def f_X5_isPrime (v0 : Int32) : Option (Int32) :=
  f_X5_isPrime_L2 v0 FU 2
set_option maxHeartbeats 4000000 in
set_option maxRecDepth 100000 in
theorem k_X5_isPrime {l : Launch} {G : GG} {fr : va_W}   {v0 : Int32} {z : Int32}  (h : f_X5_isPrime v0 = some z) : Ct l G yX5_isPrime cX5_isPrime 2 (some .boolean) 0 0 [.int v0] fr (some (.int z)) fr := by
  refine Ct.of (by decide +kernel) (Nat.le_of_ble_eq_true rfl) trivial ?_
  intro p e s m args below meth c Q A ls F hw hA hE hl
  have hx := F.x
  have hb := F.b
  unfold f_X5_isPrime at h
  obtain ⟨H, hH⟩ : ∃ H, H = s.heap := ⟨_, rfl⟩
  obtain ⟨locs, hlo⟩ : ∃ locs : List Loc, locs = [] := ⟨_, rfl⟩
  rw [← hH, ← hlo] at hw ⊢
  have hl : lv_has ls 2 [(0, .int v0)] := hl
  refine lv_iconst (v := 2) hx hb dX5_isPrime_0 (by decide) ?_
  refine lv_istore_n (lv' := [(1, .int 2), (0, .int v0)]) hx hb dX5_isPrime_1 rfl hl (by decide) rfl (fun ls hl => ?_)
  exact w_X5_isPrime_L2 F hA  FU _ z h hE H locs ls hw (lv_sub hl [1, 0] rfl)
end
theorem dX5_isGenerator_0 : decode cX5_isGenerator 0 = .ok (.iconst 1, 1) := by decide +kernel
theorem dX5_isGenerator_1 : decode cX5_isGenerator 1 = .ok (.istore_n 2, 1) := by decide +kernel
theorem dX5_isGenerator_2 : decode cX5_isGenerator 2 = .ok (.iconst 0, 1) := by decide +kernel
theorem dX5_isGenerator_3 : decode cX5_isGenerator 3 = .ok (.istore_n 3, 1) := by decide +kernel
theorem dX5_isGenerator_4 : decode cX5_isGenerator 4 = .ok (.iload_n 2, 1) := by decide +kernel
theorem dX5_isGenerator_5 : decode cX5_isGenerator 5 = .ok (.iload_n 1, 1) := by decide +kernel
theorem dX5_isGenerator_6 : decode cX5_isGenerator 6 = .ok (.imul, 1) := by decide +kernel
theorem dX5_isGenerator_7 : decode cX5_isGenerator 7 = .ok (.aload_n 0, 1) := by decide +kernel
theorem dX5_isGenerator_8 : decode cX5_isGenerator 8 = .ok (.getfield 62, 3) := by decide +kernel
theorem dX5_isGenerator_11 : decode cX5_isGenerator 11 = .ok (.irem, 1) := by decide +kernel
theorem dX5_isGenerator_12 : decode cX5_isGenerator 12 = .ok (.istore_n 2, 1) := by decide +kernel
theorem dX5_isGenerator_13 : decode cX5_isGenerator 13 = .ok (.iinc 3 1, 3) := by decide +kernel
theorem dX5_isGenerator_16 : decode cX5_isGenerator 16 = .ok (.iload_n 2, 1) := by decide +kernel
theorem dX5_isGenerator_17 : decode cX5_isGenerator 17 = .ok (.iconst 1, 1) := by decide +kernel
theorem dX5_isGenerator_18 : decode cX5_isGenerator 18 = .ok (.if_icmp .le 11, 3) := by decide +kernel
theorem dX5_isGenerator_21 : decode cX5_isGenerator 21 = .ok (.iload_n 3, 1) := by decide +kernel
theorem dX5_isGenerator_22 : decode cX5_isGenerator 22 = .ok (.aload_n 0, 1) := by decide +kernel
theorem dX5_isGenerator_23 : decode cX5_isGenerator 23 = .ok (.getfield 62, 3) := by decide +kernel
theorem dX5_isGenerator_26 : decode cX5_isGenerator 26 = .ok (.if_icmp .lt (-22), 3) := by decide +kernel
theorem dX5_isGenerator_29 : decode cX5_isGenerator 29 = .ok (.iload_n 2, 1) := by decide +kernel
theorem dX5_isGenerator_30 : decode cX5_isGenerator 30 = .ok (.iconst 1, 1) := by decide +kernel
theorem dX5_isGenerator_31 : decode cX5_isGenerator 31 = .ok (.if_icmp .ne 17, 3) := by decide +kernel
theorem dX5_isGenerator_34 : decode cX5_isGenerator 34 = .ok (.iload_n 3, 1) := by decide +kernel
theorem dX5_isGenerator_35 : decode cX5_isGenerator 35 = .ok (.aload_n 0, 1) := by decide +kernel
theorem dX5_isGenerator_36 : decode cX5_isGenerator 36 = .ok (.getfield 62, 3) := by decide +kernel
theorem dX5_isGenerator_39 : decode cX5_isGenerator 39 = .ok (.iconst 1, 1) := by decide +kernel
theorem dX5_isGenerator_40 : decode cX5_isGenerator 40 = .ok (.isub, 1) := by decide +kernel
theorem dX5_isGenerator_41 : decode cX5_isGenerator 41 = .ok (.if_icmp .ne 7, 3) := by decide +kernel
theorem dX5_isGenerator_44 : decode cX5_isGenerator 44 = .ok (.iconst 1, 1) := by decide +kernel
theorem dX5_isGenerator_45 : decode cX5_isGenerator 45 = .ok (.goto 4, 3) := by decide +kernel
theorem dX5_isGenerator_48 : decode cX5_isGenerator 48 = .ok (.iconst 0, 1) := by decide +kernel
theorem dX5_isGenerator_49 : decode cX5_isGenerator 49 = .ok (.ireturn, 1) := by decide +kernel
section
variable {p : Program} {l : Launch} {e : Env} {s : State} {m : MethodId} {args : Array Value} {below : List Frame} {meth : Method} {c : Code} {Q : State → Prop} {G : GG} {A : Nat → Prop} {q : Nat → Nat} {fr : va_W}
def f_X5_isGenerator_L4 (yp : Int32) (v1 : Int32) : Nat → Int32 → Int32 → Option (Int32)
  | 0, _, _ => none
  | fu + 1, v2, v3 =>
    if yp = 0 then none else
    if ((v2 * v1) - (v2 * v1) / yp * yp) ≤ 1 then
    if ((v2 * v1) - (v2 * v1) / yp * yp) = 1 then
    if (v3 + 1) = (yp - 1) then
    some 1
    else
    some 0
    else
    some 0
    else
    if (v3 + 1) < yp then
    f_X5_isGenerator_L4 yp v1 fu ((v2 * v1) - (v2 * v1) / yp * yp) (v3 + 1)
    else
    if ((v2 * v1) - (v2 * v1) / yp * yp) = 1 then
    if (v3 + 1) = (yp - 1) then
    some 1
    else
    some 0
    else
    some 0
set_option maxHeartbeats 4000000 in
set_option maxRecDepth 100000 in
theorem w_X5_isGenerator_L4  {yp : Int32} {ye : Int32} {yg : Int32} {bPo : Nat → Int32} {bTb : Nat → Int32} {wSh : Nat → Int64} {wTe : Nat → Int64} {wNx : Nat → Int64} {bOs : Nat → Int32} {bOn : Nat → Int32} {yop : Int32} {bSo : Nat → Int32} {bNu : Nat → Int32} {ytr : Int32} {yiw : Int32} {wMa : Nat → Int64} {wPr : Nat → Int64} {bTp : Nat → Int32} {yln : Int32} {ypl : Int32} {yfa : Int32} {wLi : Nat → Int64} {bSi : Nat → Int32} {yhp : Int32} {yhe : Int32} {yhg : Int32} {wHs : Nat → Int64} {yhi : Int32} {v1 : Int32}  (F : Fx p s m args meth c cX5_isGenerator 4 RX5 (some .boolean)) (hA : ∀ q, s.heap.size ≤ q → A q)   : ∀ (fu : Nat) (v2 : Int32) (v3 : Int32) (z : Int32), f_X5_isGenerator_L4 yp v1 fu v2 v3 = some z → Ends p l e (rmOf 0 0) s m args below meth c Q cX5_isGenerator G A (some .boolean) (some (.int z)) (mW G q yp ye yg bPo bTb wSh wTe wNx bOs bOn yop bSo bNu ytr yiw wMa wPr bTp yln ypl yfa wLi bSi yhp yhe yhg wHs yhi ++ fr) → ∀ (H : Heap) (locs : List Loc) (ls : Array Slot), Wd G s A (mW G q yp ye yg bPo bTb wSh wTe wNx bOs bOn yop bSo bNu ytr yiw wMa wPr bTp yln ypl yfa wLi bSi yhp yhe yhg wHs yhi ++ fr) H locs → lv_has ls 4 [(0, .ref (q 0)), (1, .int v1), (2, .int v2), (3, .int v3)] → W p l e (rmOf 0 0) s m args below meth c H locs 0 0 Q (F0 m 4 ls []) := by
  have hx := F.x
  have hb := F.b
  intro fu
  induction fu with
  | zero =>
    intro v2 v3 z h
    cases (h : none = some z)
  | succ fu ih =>
    intro v2 v3 z h hE H locs ls hw hl
    rw [f_X5_isGenerator_L4] at h
    refine lv_iload_n hx hb dX5_isGenerator_4 rfl (lv_at hl 2 rfl) ?_
    refine lv_iload_n hx hb dX5_isGenerator_5 rfl (lv_at hl 1 rfl) ?_
    refine lv_imul hx hb dX5_isGenerator_6 ?_
    refine lv_aload_n hx hb dX5_isGenerator_7 rfl (lv_at hl 0 rfl) ?_
    refine gf_5_62 F hw dX5_isGenerator_8 ?_
    obtain ⟨g1, h⟩ := stD h
    refine lv_irem hx hb dX5_isGenerator_11 g1 ?_
    refine lv_istore_n (lv' := [(2, .int ((v2 * v1) - (v2 * v1) / yp * yp)), (0, .ref (q 0)), (1, .int v1), (3, .int v3)]) hx hb dX5_isGenerator_12 rfl hl (by decide) rfl (fun ls hl => ?_)
    refine lv_iinc (v := (v3 + 1)) (lv' := [(3, .int (v3 + 1)), (2, .int ((v2 * v1) - (v2 * v1) / yp * yp)), (0, .ref (q 0)), (1, .int v1)]) hx hb dX5_isGenerator_13 hl (k := 3) rfl rfl (by decide) rfl (fun ls hl => ?_)
    refine lv_iload_n hx hb dX5_isGenerator_16 rfl (lv_at hl 1 rfl) ?_
    refine lv_iconst (v := 1) hx hb dX5_isGenerator_17 (by decide) ?_
    refine lv_icmp_le (tgt := 29) hx hb dX5_isGenerator_18 (by decide) (fun c2 => ?_) (fun c2 => ?_)
    · replace h := stT c2 h
      refine lv_iload_n hx hb dX5_isGenerator_29 rfl (lv_at hl 1 rfl) ?_
      refine lv_iconst (v := 1) hx hb dX5_isGenerator_30 (by decide) ?_
      refine lv_icmp_ne (tgt := 48) hx hb dX5_isGenerator_31 (by decide) (fun c3 => ?_) (fun c3 => ?_)
      · replace h := stF c3 h
        refine lv_iconst (v := 0) hx hb dX5_isGenerator_48 (by decide) ?_
        obtain rfl := Option.some.inj h
        exact hE H locs _ ls hw (Or.inl rfl) dX5_isGenerator_49
      · replace h := stT c3 h
        refine lv_iload_n hx hb dX5_isGenerator_34 rfl (lv_at hl 0 rfl) ?_
        refine lv_aload_n hx hb dX5_isGenerator_35 rfl (lv_at hl 2 rfl) ?_
        refine gf_5_62 F hw dX5_isGenerator_36 ?_
        refine lv_iconst (v := 1) hx hb dX5_isGenerator_39 (by decide) ?_
        refine lv_isub hx hb dX5_isGenerator_40 ?_
        refine lv_icmp_ne (tgt := 48) hx hb dX5_isGenerator_41 (by decide) (fun c4 => ?_) (fun c4 => ?_)
        · replace h := stF c4 h
          refine lv_iconst (v := 0) hx hb dX5_isGenerator_48 (by decide) ?_
          obtain rfl := Option.some.inj h
          exact hE H locs _ ls hw (Or.inl rfl) dX5_isGenerator_49
        · replace h := stT c4 h
          refine lv_iconst (v := 1) hx hb dX5_isGenerator_44 (by decide) ?_
          refine lv_goto (tgt := 49) hx hb dX5_isGenerator_45 (by decide) ?_
          obtain rfl := Option.some.inj h
          exact hE H locs _ ls hw (Or.inr rfl) dX5_isGenerator_49
    · replace h := stF c2 h
      refine lv_iload_n hx hb dX5_isGenerator_21 rfl (lv_at hl 0 rfl) ?_
      refine lv_aload_n hx hb dX5_isGenerator_22 rfl (lv_at hl 2 rfl) ?_
      refine gf_5_62 F hw dX5_isGenerator_23 ?_
      refine lv_icmp_lt (tgt := 4) hx hb dX5_isGenerator_26 (by decide) (fun c5 => ?_) (fun c5 => ?_)
      · replace h := stT c5 h
        exact ih _ _ z h hE H locs ls hw (lv_sub hl [2, 3, 1, 0] rfl)
      · replace h := stF c5 h
        refine lv_iload_n hx hb dX5_isGenerator_29 rfl (lv_at hl 1 rfl) ?_
        refine lv_iconst (v := 1) hx hb dX5_isGenerator_30 (by decide) ?_
        refine lv_icmp_ne (tgt := 48) hx hb dX5_isGenerator_31 (by decide) (fun c6 => ?_) (fun c6 => ?_)
        · replace h := stF c6 h
          refine lv_iconst (v := 0) hx hb dX5_isGenerator_48 (by decide) ?_
          obtain rfl := Option.some.inj h
          exact hE H locs _ ls hw (Or.inl rfl) dX5_isGenerator_49
        · replace h := stT c6 h
          refine lv_iload_n hx hb dX5_isGenerator_34 rfl (lv_at hl 0 rfl) ?_
          refine lv_aload_n hx hb dX5_isGenerator_35 rfl (lv_at hl 2 rfl) ?_
          refine gf_5_62 F hw dX5_isGenerator_36 ?_
          refine lv_iconst (v := 1) hx hb dX5_isGenerator_39 (by decide) ?_
          refine lv_isub hx hb dX5_isGenerator_40 ?_
          refine lv_icmp_ne (tgt := 48) hx hb dX5_isGenerator_41 (by decide) (fun c7 => ?_) (fun c7 => ?_)
          · replace h := stF c7 h
            refine lv_iconst (v := 0) hx hb dX5_isGenerator_48 (by decide) ?_
            obtain rfl := Option.some.inj h
            exact hE H locs _ ls hw (Or.inl rfl) dX5_isGenerator_49
          · replace h := stT c7 h
            refine lv_iconst (v := 1) hx hb dX5_isGenerator_44 (by decide) ?_
            refine lv_goto (tgt := 49) hx hb dX5_isGenerator_45 (by decide) ?_
            obtain rfl := Option.some.inj h
            exact hE H locs _ ls hw (Or.inr rfl) dX5_isGenerator_49
def f_X5_isGenerator (yp : Int32) (v1 : Int32) : Option (Int32) :=
  f_X5_isGenerator_L4 yp v1 FU 1 0
set_option maxHeartbeats 4000000 in
set_option maxRecDepth 100000 in
theorem k_X5_isGenerator {l : Launch} {G : GG} {q : Nat → Nat} {fr : va_W}  {yp : Int32} {ye : Int32} {yg : Int32} {bPo : Nat → Int32} {bTb : Nat → Int32} {wSh : Nat → Int64} {wTe : Nat → Int64} {wNx : Nat → Int64} {bOs : Nat → Int32} {bOn : Nat → Int32} {yop : Int32} {bSo : Nat → Int32} {bNu : Nat → Int32} {ytr : Int32} {yiw : Int32} {wMa : Nat → Int64} {wPr : Nat → Int64} {bTp : Nat → Int32} {yln : Int32} {ypl : Int32} {yfa : Int32} {wLi : Nat → Int64} {bSi : Nat → Int32} {yhp : Int32} {yhe : Int32} {yhg : Int32} {wHs : Nat → Int64} {yhi : Int32} {v1 : Int32} {z : Int32}  (h : f_X5_isGenerator yp v1 = some z) : Ct l G yX5_isGenerator cX5_isGenerator 4 (some .boolean) 0 0 [.ref (q 0), .int v1] (mW G q yp ye yg bPo bTb wSh wTe wNx bOs bOn yop bSo bNu ytr yiw wMa wPr bTp yln ypl yfa wLi bSi yhp yhe yhg wHs yhi ++ fr) (some (.int z)) (mW G q yp ye yg bPo bTb wSh wTe wNx bOs bOn yop bSo bNu ytr yiw wMa wPr bTp yln ypl yfa wLi bSi yhp yhe yhg wHs yhi ++ fr) := by
  refine Ct.of (by decide +kernel) (Nat.le_of_ble_eq_true rfl) trivial ?_
  intro p e s m args below meth c Q A ls F hw hA hE hl
  have hx := F.x
  have hb := F.b
  unfold f_X5_isGenerator at h
  obtain ⟨H, hH⟩ : ∃ H, H = s.heap := ⟨_, rfl⟩
  obtain ⟨locs, hlo⟩ : ∃ locs : List Loc, locs = [] := ⟨_, rfl⟩
  rw [← hH, ← hlo] at hw ⊢
  have hl : lv_has ls 4 [(0, .ref (q 0)), (1, .int v1)] := hl
  refine lv_iconst (v := 1) hx hb dX5_isGenerator_0 (by decide) ?_
  refine lv_istore_n (lv' := [(2, .int 1), (0, .ref (q 0)), (1, .int v1)]) hx hb dX5_isGenerator_1 rfl hl (by decide) rfl (fun ls hl => ?_)
  refine lv_iconst (v := 0) hx hb dX5_isGenerator_2 (by decide) ?_
  refine lv_istore_n (lv' := [(3, .int 0), (2, .int 1), (0, .ref (q 0)), (1, .int v1)]) hx hb dX5_isGenerator_3 rfl hl (by decide) rfl (fun ls hl => ?_)
  exact w_X5_isGenerator_L4 F hA  FU _ _ z h hE H locs ls hw (lv_sub hl [2, 3, 1, 0] rfl)
end
theorem dX5_classAt_0 : decode cX5_classAt 0 = .ok (.aload_n 0, 1) := by decide +kernel
theorem dX5_classAt_1 : decode cX5_classAt 1 = .ok (.getfield 11, 3) := by decide +kernel
theorem dX5_classAt_4 : decode cX5_classAt 4 = .ok (.iload_n 1, 1) := by decide +kernel
theorem dX5_classAt_5 : decode cX5_classAt 5 = .ok (.iaload, 1) := by decide +kernel
theorem dX5_classAt_6 : decode cX5_classAt 6 = .ok (.aload_n 0, 1) := by decide +kernel
theorem dX5_classAt_7 : decode cX5_classAt 7 = .ok (.getfield 66, 3) := by decide +kernel
theorem dX5_classAt_10 : decode cX5_classAt 10 = .ok (.irem, 1) := by decide +kernel
theorem dX5_classAt_11 : decode cX5_classAt 11 = .ok (.ireturn, 1) := by decide +kernel
section
variable {p : Program} {l : Launch} {e : Env} {s : State} {m : MethodId} {args : Array Value} {below : List Frame} {meth : Method} {c : Code} {Q : State → Prop} {G : GG} {A : Nat → Prop} {q : Nat → Nat} {fr : va_W}
def f_X5_classAt (ye : Int32) (bPo : Nat → Int32) (v1 : Int32) : Option (Int32) :=
  if inb v1 62 then
  if ye = 0 then none else
  some ((bPo v1.toNatClampNeg) - (bPo v1.toNatClampNeg) / ye * ye)
  else none
set_option maxHeartbeats 4000000 in
set_option maxRecDepth 100000 in
theorem k_X5_classAt {l : Launch} {G : GG} {q : Nat → Nat} {fr : va_W}  {yp : Int32} {ye : Int32} {yg : Int32} {bPo : Nat → Int32} {bTb : Nat → Int32} {wSh : Nat → Int64} {wTe : Nat → Int64} {wNx : Nat → Int64} {bOs : Nat → Int32} {bOn : Nat → Int32} {yop : Int32} {bSo : Nat → Int32} {bNu : Nat → Int32} {ytr : Int32} {yiw : Int32} {wMa : Nat → Int64} {wPr : Nat → Int64} {bTp : Nat → Int32} {yln : Int32} {ypl : Int32} {yfa : Int32} {wLi : Nat → Int64} {bSi : Nat → Int32} {yhp : Int32} {yhe : Int32} {yhg : Int32} {wHs : Nat → Int64} {yhi : Int32} {v1 : Int32} {z : Int32}  (h : f_X5_classAt ye bPo v1 = some z) : Ct l G yX5_classAt cX5_classAt 2 (some .int) 0 0 [.ref (q 0), .int v1] (mW G q yp ye yg bPo bTb wSh wTe wNx bOs bOn yop bSo bNu ytr yiw wMa wPr bTp yln ypl yfa wLi bSi yhp yhe yhg wHs yhi ++ fr) (some (.int z)) (mW G q yp ye yg bPo bTb wSh wTe wNx bOs bOn yop bSo bNu ytr yiw wMa wPr bTp yln ypl yfa wLi bSi yhp yhe yhg wHs yhi ++ fr) := by
  refine Ct.of (by decide +kernel) (Nat.le_of_ble_eq_true rfl) trivial ?_
  intro p e s m args below meth c Q A ls F hw hA hE hl
  have hx := F.x
  have hb := F.b
  unfold f_X5_classAt at h
  obtain ⟨H, hH⟩ : ∃ H, H = s.heap := ⟨_, rfl⟩
  obtain ⟨locs, hlo⟩ : ∃ locs : List Loc, locs = [] := ⟨_, rfl⟩
  rw [← hH, ← hlo] at hw ⊢
  have hl : lv_has ls 2 [(0, .ref (q 0)), (1, .int v1)] := hl
  refine lv_aload_n hx hb dX5_classAt_0 rfl (lv_at hl 0 rfl) ?_
  refine gf_5_11 F hw dX5_classAt_1 ?_
  refine lv_iload_n hx hb dX5_classAt_4 rfl (lv_at hl 1 rfl) ?_
  obtain ⟨g1, h⟩ := stG h
  refine al_m1 F hw g1 dX5_classAt_5 ?_
  refine lv_aload_n hx hb dX5_classAt_6 rfl (lv_at hl 0 rfl) ?_
  refine gf_5_66 F hw dX5_classAt_7 ?_
  obtain ⟨g2, h⟩ := stD h
  refine lv_irem hx hb dX5_classAt_10 g2 ?_
  obtain rfl := Option.some.inj h
  exact hE H locs _ ls hw dX5_classAt_11
end
theorem dX5_firstOf_0 : decode cX5_firstOf 0 = .ok (.iconst 1, 1) := by decide +kernel
theorem dX5_firstOf_1 : decode cX5_firstOf 1 = .ok (.istore_n 2, 1) := by decide +kernel
theorem dX5_firstOf_2 : decode cX5_firstOf 2 = .ok (.aload_n 0, 1) := by decide +kernel
theorem dX5_firstOf_3 : decode cX5_firstOf 3 = .ok (.iload_n 2, 1) := by decide +kernel
theorem dX5_firstOf_4 : decode cX5_firstOf 4 = .ok (.invokevirtual 83, 3) := by decide +kernel
theorem dX5_firstOf_7 : decode cX5_firstOf 7 = .ok (.iload_n 1, 1) := by decide +kernel
theorem dX5_firstOf_8 : decode cX5_firstOf 8 = .ok (.if_icmp .eq 9, 3) := by decide +kernel
theorem dX5_firstOf_11 : decode cX5_firstOf 11 = .ok (.iinc 2 1, 3) := by decide +kernel
theorem dX5_firstOf_14 : decode cX5_firstOf 14 = .ok (.goto (-12), 3) := by decide +kernel
theorem dX5_firstOf_17 : decode cX5_firstOf 17 = .ok (.iload_n 2, 1) := by decide +kernel
theorem dX5_firstOf_18 : decode cX5_firstOf 18 = .ok (.ireturn, 1) := by decide +kernel
section
variable {p : Program} {l : Launch} {e : Env} {s : State} {m : MethodId} {args : Array Value} {below : List Frame} {meth : Method} {c : Code} {Q : State → Prop} {G : GG} {A : Nat → Prop} {q : Nat → Nat} {fr : va_W}
def f_X5_firstOf_L2 (ye : Int32) (bPo : Nat → Int32) (v1 : Int32) : Nat → Int32 → Option (Int32)
  | 0, _ => none
  | fu + 1, v2 =>
    (f_X5_classAt ye bPo v2).bind fun z1 =>
    if z1 = v1 then
    some v2
    else
    f_X5_firstOf_L2 ye bPo v1 fu (v2 + 1)
set_option maxHeartbeats 4000000 in
set_option maxRecDepth 100000 in
theorem w_X5_firstOf_L2  {yp : Int32} {ye : Int32} {yg : Int32} {bPo : Nat → Int32} {bTb : Nat → Int32} {wSh : Nat → Int64} {wTe : Nat → Int64} {wNx : Nat → Int64} {bOs : Nat → Int32} {bOn : Nat → Int32} {yop : Int32} {bSo : Nat → Int32} {bNu : Nat → Int32} {ytr : Int32} {yiw : Int32} {wMa : Nat → Int64} {wPr : Nat → Int64} {bTp : Nat → Int32} {yln : Int32} {ypl : Int32} {yfa : Int32} {wLi : Nat → Int64} {bSi : Nat → Int32} {yhp : Int32} {yhe : Int32} {yhg : Int32} {wHs : Nat → Int64} {yhi : Int32} {v1 : Int32}  (F : Fx p s m args meth c cX5_firstOf 3 RX5 (some .int)) (hA : ∀ q, s.heap.size ≤ q → A q)   : ∀ (fu : Nat) (v2 : Int32) (z : Int32), f_X5_firstOf_L2 ye bPo v1 fu v2 = some z → Ends p l e (rmOf 1 21) s m args below meth c Q cX5_firstOf G A (some .int) (some (.int z)) (mW G q yp ye yg bPo bTb wSh wTe wNx bOs bOn yop bSo bNu ytr yiw wMa wPr bTp yln ypl yfa wLi bSi yhp yhe yhg wHs yhi ++ fr) → ∀ (H : Heap) (locs : List Loc) (ls : Array Slot), Wd G s A (mW G q yp ye yg bPo bTb wSh wTe wNx bOs bOn yop bSo bNu ytr yiw wMa wPr bTp yln ypl yfa wLi bSi yhp yhe yhg wHs yhi ++ fr) H locs → lv_has ls 3 [(0, .ref (q 0)), (1, .int v1), (2, .int v2)] → W p l e (rmOf 1 21) s m args below meth c H locs 0 0 Q (F0 m 2 ls []) := by
  have hx := F.x
  have hb := F.b
  intro fu
  induction fu with
  | zero =>
    intro v2 z h
    cases (h : none = some z)
  | succ fu ih =>
    intro v2 z h hE H locs ls hw hl
    rw [f_X5_firstOf_L2] at h
    refine lv_aload_n hx hb dX5_firstOf_2 rfl (lv_at hl 0 rfl) ?_
    refine lv_iload_n hx hb dX5_firstOf_3 rfl (lv_at hl 2 rfl) ?_
    obtain ⟨z1, hz1, h⟩ := stB h
    refine ctV (av := [.int v2]) (st0 := ([] : List Value)) (st1 := ([.int z1] : List Value)) F hw hA (k_X5_classAt hz1) kl_5_83 kd_X5_classAt rfl ⟨by decide, by decide⟩ 0 rfl rfl hl.1 rfl (Nat.le_of_ble_eq_true rfl) dX5_firstOf_4 rfl (fun H locs hw => ?_)
    refine lv_iload_n hx hb dX5_firstOf_7 rfl (lv_at hl 1 rfl) ?_
    refine lv_icmp_eq (tgt := 17) hx hb dX5_firstOf_8 (by decide) (fun c2 => ?_) (fun c2 => ?_)
    · replace h := stT c2 h
      refine lv_iload_n hx hb dX5_firstOf_17 rfl (lv_at hl 2 rfl) ?_
      obtain rfl := Option.some.inj h
      exact hE H locs _ ls hw dX5_firstOf_18
    · replace h := stF c2 h
      refine lv_iinc (v := (v2 + 1)) (lv' := [(2, .int (v2 + 1)), (0, .ref (q 0)), (1, .int v1)]) hx hb dX5_firstOf_11 hl (k := 2) rfl rfl (by decide) rfl (fun ls hl => ?_)
      refine lv_goto (tgt := 2) hx hb dX5_firstOf_14 (by decide) ?_
      exact ih _ z h hE H locs ls hw (lv_sub hl [1, 2, 0] rfl)
def f_X5_firstOf (ye : Int32) (bPo : Nat → Int32) (v1 : Int32) : Option (Int32) :=
  f_X5_firstOf_L2 ye bPo v1 FU 1
set_option maxHeartbeats 4000000 in
set_option maxRecDepth 100000 in
theorem k_X5_firstOf {l : Launch} {G : GG} {q : Nat → Nat} {fr : va_W}  {yp : Int32} {ye : Int32} {yg : Int32} {bPo : Nat → Int32} {bTb : Nat → Int32} {wSh : Nat → Int64} {wTe : Nat → Int64} {wNx : Nat → Int64} {bOs : Nat → Int32} {bOn : Nat → Int32} {yop : Int32} {bSo : Nat → Int32} {bNu : Nat → Int32} {ytr : Int32} {yiw : Int32} {wMa : Nat → Int64} {wPr : Nat → Int64} {bTp : Nat → Int32} {yln : Int32} {ypl : Int32} {yfa : Int32} {wLi : Nat → Int64} {bSi : Nat → Int32} {yhp : Int32} {yhe : Int32} {yhg : Int32} {wHs : Nat → Int64} {yhi : Int32} {v1 : Int32} {z : Int32}  (h : f_X5_firstOf ye bPo v1 = some z) : Ct l G yX5_firstOf cX5_firstOf 3 (some .int) 1 21 [.ref (q 0), .int v1] (mW G q yp ye yg bPo bTb wSh wTe wNx bOs bOn yop bSo bNu ytr yiw wMa wPr bTp yln ypl yfa wLi bSi yhp yhe yhg wHs yhi ++ fr) (some (.int z)) (mW G q yp ye yg bPo bTb wSh wTe wNx bOs bOn yop bSo bNu ytr yiw wMa wPr bTp yln ypl yfa wLi bSi yhp yhe yhg wHs yhi ++ fr) := by
  refine Ct.of (by decide +kernel) (Nat.le_of_ble_eq_true rfl) trivial ?_
  intro p e s m args below meth c Q A ls F hw hA hE hl
  have hx := F.x
  have hb := F.b
  unfold f_X5_firstOf at h
  obtain ⟨H, hH⟩ : ∃ H, H = s.heap := ⟨_, rfl⟩
  obtain ⟨locs, hlo⟩ : ∃ locs : List Loc, locs = [] := ⟨_, rfl⟩
  rw [← hH, ← hlo] at hw ⊢
  have hl : lv_has ls 3 [(0, .ref (q 0)), (1, .int v1)] := hl
  refine lv_iconst (v := 1) hx hb dX5_firstOf_0 (by decide) ?_
  refine lv_istore_n (lv' := [(2, .int 1), (0, .ref (q 0)), (1, .int v1)]) hx hb dX5_firstOf_1 rfl hl (by decide) rfl (fun ls hl => ?_)
  exact w_X5_firstOf_L2 F hA  FU _ z h hE H locs ls hw (lv_sub hl [1, 2, 0] rfl)
end
theorem dX5_at_0 : decode cX5_at 0 = .ok (.sipush 144, 3) := by decide +kernel
theorem dX5_at_3 : decode cX5_at 3 = .ok (.iload_n 0, 1) := by decide +kernel
theorem dX5_at_4 : decode cX5_at 4 = .ok (.imul, 1) := by decide +kernel
theorem dX5_at_5 : decode cX5_at 5 = .ok (.bipush 12, 2) := by decide +kernel
theorem dX5_at_7 : decode cX5_at 7 = .ok (.iload_n 1, 1) := by decide +kernel
theorem dX5_at_8 : decode cX5_at 8 = .ok (.imul, 1) := by decide +kernel
theorem dX5_at_9 : decode cX5_at 9 = .ok (.iadd, 1) := by decide +kernel
theorem dX5_at_10 : decode cX5_at 10 = .ok (.iload_n 2, 1) := by decide +kernel
theorem dX5_at_11 : decode cX5_at 11 = .ok (.iadd, 1) := by decide +kernel
theorem dX5_at_12 : decode cX5_at 12 = .ok (.ireturn, 1) := by decide +kernel
section
variable {p : Program} {l : Launch} {e : Env} {s : State} {m : MethodId} {args : Array Value} {below : List Frame} {meth : Method} {c : Code} {Q : State → Prop} {G : GG} {A : Nat → Prop} {q : Nat → Nat} {fr : va_W}
def f_X5_at (v0 : Int32) (v1 : Int32) (v2 : Int32) : Option (Int32) :=
  some (((144 * v0) + (12 * v1)) + v2)
set_option maxHeartbeats 4000000 in
set_option maxRecDepth 100000 in
theorem k_X5_at {l : Launch} {G : GG} {fr : va_W}   {v0 : Int32} {v1 : Int32} {v2 : Int32} {z : Int32}  (h : f_X5_at v0 v1 v2 = some z) : Ct l G yX5_at cX5_at 3 (some .int) 0 0 [.int v0, .int v1, .int v2] fr (some (.int z)) fr := by
  refine Ct.of (by decide +kernel) (Nat.le_of_ble_eq_true rfl) trivial ?_
  intro p e s m args below meth c Q A ls F hw hA hE hl
  have hx := F.x
  have hb := F.b
  unfold f_X5_at at h
  obtain ⟨H, hH⟩ : ∃ H, H = s.heap := ⟨_, rfl⟩
  obtain ⟨locs, hlo⟩ : ∃ locs : List Loc, locs = [] := ⟨_, rfl⟩
  rw [← hH, ← hlo] at hw ⊢
  have hl : lv_has ls 3 [(0, .int v0), (1, .int v1), (2, .int v2)] := hl
  refine lv_sipush (v := 144) hx hb dX5_at_0 (by decide) ?_
  refine lv_iload_n hx hb dX5_at_3 rfl (lv_at hl 0 rfl) ?_
  refine lv_imul hx hb dX5_at_4 ?_
  refine lv_bipush (v := 12) hx hb dX5_at_5 (by decide) ?_
  refine lv_iload_n hx hb dX5_at_7 rfl (lv_at hl 1 rfl) ?_
  refine lv_imul hx hb dX5_at_8 ?_
  refine lv_iadd hx hb dX5_at_9 ?_
  refine lv_iload_n hx hb dX5_at_10 rfl (lv_at hl 2 rfl) ?_
  refine lv_iadd hx hb dX5_at_11 ?_
  obtain rfl := Option.some.inj h
  exact hE H locs _ ls hw dX5_at_12
end
theorem dX5_findsClasses_0 : decode cX5_findsClasses 0 = .ok (.iconst 1, 1) := by decide +kernel
theorem dX5_findsClasses_1 : decode cX5_findsClasses 1 = .ok (.istore_n 1, 1) := by decide +kernel
theorem dX5_findsClasses_2 : decode cX5_findsClasses 2 = .ok (.iconst 0, 1) := by decide +kernel
theorem dX5_findsClasses_3 : decode cX5_findsClasses 3 = .ok (.istore_n 2, 1) := by decide +kernel
theorem dX5_findsClasses_4 : decode cX5_findsClasses 4 = .ok (.iload_n 2, 1) := by decide +kernel
theorem dX5_findsClasses_5 : decode cX5_findsClasses 5 = .ok (.aload_n 0, 1) := by decide +kernel
theorem dX5_findsClasses_6 : decode cX5_findsClasses 6 = .ok (.getfield 62, 3) := by decide +kernel
theorem dX5_findsClasses_9 : decode cX5_findsClasses 9 = .ok (.iconst 1, 1) := by decide +kernel
theorem dX5_findsClasses_10 : decode cX5_findsClasses 10 = .ok (.isub, 1) := by decide +kernel
theorem dX5_findsClasses_11 : decode cX5_findsClasses 11 = .ok (.if_icmp .ge 28, 3) := by decide +kernel
theorem dX5_findsClasses_14 : decode cX5_findsClasses 14 = .ok (.aload_n 0, 1) := by decide +kernel
theorem dX5_findsClasses_15 : decode cX5_findsClasses 15 = .ok (.getfield 11, 3) := by decide +kernel
theorem dX5_findsClasses_18 : decode cX5_findsClasses 18 = .ok (.iload_n 1, 1) := by decide +kernel
theorem dX5_findsClasses_19 : decode cX5_findsClasses 19 = .ok (.iload_n 2, 1) := by decide +kernel
theorem dX5_findsClasses_20 : decode cX5_findsClasses 20 = .ok (.iastore, 1) := by decide +kernel
theorem dX5_findsClasses_21 : decode cX5_findsClasses 21 = .ok (.iload_n 1, 1) := by decide +kernel
theorem dX5_findsClasses_22 : decode cX5_findsClasses 22 = .ok (.aload_n 0, 1) := by decide +kernel
theorem dX5_findsClasses_23 : decode cX5_findsClasses 23 = .ok (.getfield 69, 3) := by decide +kernel
theorem dX5_findsClasses_26 : decode cX5_findsClasses 26 = .ok (.imul, 1) := by decide +kernel
theorem dX5_findsClasses_27 : decode cX5_findsClasses 27 = .ok (.aload_n 0, 1) := by decide +kernel
theorem dX5_findsClasses_28 : decode cX5_findsClasses 28 = .ok (.getfield 62, 3) := by decide +kernel
theorem dX5_findsClasses_31 : decode cX5_findsClasses 31 = .ok (.irem, 1) := by decide +kernel
theorem dX5_findsClasses_32 : decode cX5_findsClasses 32 = .ok (.istore_n 1, 1) := by decide +kernel
theorem dX5_findsClasses_33 : decode cX5_findsClasses 33 = .ok (.iinc 2 1, 3) := by decide +kernel
theorem dX5_findsClasses_36 : decode cX5_findsClasses 36 = .ok (.goto (-32), 3) := by decide +kernel
theorem dX5_findsClasses_39 : decode cX5_findsClasses 39 = .ok (.iconst 0, 1) := by decide +kernel
theorem dX5_findsClasses_40 : decode cX5_findsClasses 40 = .ok (.istore_n 2, 1) := by decide +kernel
theorem dX5_findsClasses_41 : decode cX5_findsClasses 41 = .ok (.iload_n 2, 1) := by decide +kernel
theorem dX5_findsClasses_42 : decode cX5_findsClasses 42 = .ok (.sipush 1728, 3) := by decide +kernel
theorem dX5_findsClasses_45 : decode cX5_findsClasses 45 = .ok (.if_icmp .ge 16, 3) := by decide +kernel
theorem dX5_findsClasses_48 : decode cX5_findsClasses 48 = .ok (.aload_n 0, 1) := by decide +kernel
theorem dX5_findsClasses_49 : decode cX5_findsClasses 49 = .ok (.getfield 15, 3) := by decide +kernel
theorem dX5_findsClasses_52 : decode cX5_findsClasses 52 = .ok (.iload_n 2, 1) := by decide +kernel
theorem dX5_findsClasses_53 : decode cX5_findsClasses 53 = .ok (.iconst 0, 1) := by decide +kernel
theorem dX5_findsClasses_54 : decode cX5_findsClasses 54 = .ok (.iastore, 1) := by decide +kernel
theorem dX5_findsClasses_55 : decode cX5_findsClasses 55 = .ok (.iinc 2 1, 3) := by decide +kernel
theorem dX5_findsClasses_58 : decode cX5_findsClasses 58 = .ok (.goto (-17), 3) := by decide +kernel
theorem dX5_findsClasses_61 : decode cX5_findsClasses 61 = .ok (.iconst 0, 1) := by decide +kernel
theorem dX5_findsClasses_62 : decode cX5_findsClasses 62 = .ok (.istore_n 2, 1) := by decide +kernel
theorem dX5_findsClasses_63 : decode cX5_findsClasses 63 = .ok (.iload_n 2, 1) := by decide +kernel
theorem dX5_findsClasses_64 : decode cX5_findsClasses 64 = .ok (.aload_n 0, 1) := by decide +kernel
theorem dX5_findsClasses_65 : decode cX5_findsClasses 65 = .ok (.getfield 66, 3) := by decide +kernel
theorem dX5_findsClasses_68 : decode cX5_findsClasses 68 = .ok (.if_icmp .ge 79, 3) := by decide +kernel
theorem dX5_findsClasses_71 : decode cX5_findsClasses 71 = .ok (.aload_n 0, 1) := by decide +kernel
theorem dX5_findsClasses_72 : decode cX5_findsClasses 72 = .ok (.iload_n 2, 1) := by decide +kernel
theorem dX5_findsClasses_73 : decode cX5_findsClasses 73 = .ok (.invokevirtual 79, 3) := by decide +kernel
theorem dX5_findsClasses_76 : decode cX5_findsClasses 76 = .ok (.istore_n 3, 1) := by decide +kernel
theorem dX5_findsClasses_77 : decode cX5_findsClasses 77 = .ok (.iconst 1, 1) := by decide +kernel
theorem dX5_findsClasses_78 : decode cX5_findsClasses 78 = .ok (.istore 4, 2) := by decide +kernel
theorem dX5_findsClasses_80 : decode cX5_findsClasses 80 = .ok (.iload 4, 2) := by decide +kernel
theorem dX5_findsClasses_82 : decode cX5_findsClasses 82 = .ok (.aload_n 0, 1) := by decide +kernel
theorem dX5_findsClasses_83 : decode cX5_findsClasses 83 = .ok (.getfield 62, 3) := by decide +kernel
theorem dX5_findsClasses_86 : decode cX5_findsClasses 86 = .ok (.if_icmp .ge 55, 3) := by decide +kernel
theorem dX5_findsClasses_89 : decode cX5_findsClasses 89 = .ok (.iload_n 3, 1) := by decide +kernel
theorem dX5_findsClasses_90 : decode cX5_findsClasses 90 = .ok (.iload 4, 2) := by decide +kernel
theorem dX5_findsClasses_92 : decode cX5_findsClasses 92 = .ok (.isub, 1) := by decide +kernel
theorem dX5_findsClasses_93 : decode cX5_findsClasses 93 = .ok (.aload_n 0, 1) := by decide +kernel
theorem dX5_findsClasses_94 : decode cX5_findsClasses 94 = .ok (.getfield 62, 3) := by decide +kernel
theorem dX5_findsClasses_97 : decode cX5_findsClasses 97 = .ok (.iadd, 1) := by decide +kernel
theorem dX5_findsClasses_98 : decode cX5_findsClasses 98 = .ok (.aload_n 0, 1) := by decide +kernel
theorem dX5_findsClasses_99 : decode cX5_findsClasses 99 = .ok (.getfield 62, 3) := by decide +kernel
theorem dX5_findsClasses_102 : decode cX5_findsClasses 102 = .ok (.irem, 1) := by decide +kernel
theorem dX5_findsClasses_103 : decode cX5_findsClasses 103 = .ok (.istore 5, 2) := by decide +kernel
theorem dX5_findsClasses_105 : decode cX5_findsClasses 105 = .ok (.iload 5, 2) := by decide +kernel
theorem dX5_findsClasses_107 : decode cX5_findsClasses 107 = .ok (.ifCond .le 28, 3) := by decide +kernel
theorem dX5_findsClasses_110 : decode cX5_findsClasses 110 = .ok (.aload_n 0, 1) := by decide +kernel
theorem dX5_findsClasses_111 : decode cX5_findsClasses 111 = .ok (.getfield 15, 3) := by decide +kernel
theorem dX5_findsClasses_114 : decode cX5_findsClasses 114 = .ok (.aload_n 0, 1) := by decide +kernel
theorem dX5_findsClasses_115 : decode cX5_findsClasses 115 = .ok (.iload 4, 2) := by decide +kernel
theorem dX5_findsClasses_117 : decode cX5_findsClasses 117 = .ok (.invokevirtual 83, 3) := by decide +kernel
theorem dX5_findsClasses_120 : decode cX5_findsClasses 120 = .ok (.aload_n 0, 1) := by decide +kernel
theorem dX5_findsClasses_121 : decode cX5_findsClasses 121 = .ok (.iload 5, 2) := by decide +kernel
theorem dX5_findsClasses_123 : decode cX5_findsClasses 123 = .ok (.invokevirtual 83, 3) := by decide +kernel
theorem dX5_findsClasses_126 : decode cX5_findsClasses 126 = .ok (.iload_n 2, 1) := by decide +kernel
theorem dX5_findsClasses_127 : decode cX5_findsClasses 127 = .ok (.invokestatic 86, 3) := by decide +kernel
theorem dX5_findsClasses_130 : decode cX5_findsClasses 130 = .ok (.dup2, 1) := by decide +kernel
theorem dX5_findsClasses_131 : decode cX5_findsClasses 131 = .ok (.iaload, 1) := by decide +kernel
theorem dX5_findsClasses_132 : decode cX5_findsClasses 132 = .ok (.iconst 1, 1) := by decide +kernel
theorem dX5_findsClasses_133 : decode cX5_findsClasses 133 = .ok (.iadd, 1) := by decide +kernel
theorem dX5_findsClasses_134 : decode cX5_findsClasses 134 = .ok (.iastore, 1) := by decide +kernel
theorem dX5_findsClasses_135 : decode cX5_findsClasses 135 = .ok (.iinc 4 1, 3) := by decide +kernel
theorem dX5_findsClasses_138 : decode cX5_findsClasses 138 = .ok (.goto (-58), 3) := by decide +kernel
theorem dX5_findsClasses_141 : decode cX5_findsClasses 141 = .ok (.iinc 2 1, 3) := by decide +kernel
theorem dX5_findsClasses_144 : decode cX5_findsClasses 144 = .ok (.goto (-81), 3) := by decide +kernel
theorem dX5_findsClasses_147 : decode cX5_findsClasses 147 = .ok (.return_, 1) := by decide +kernel
section
variable {p : Program} {l : Launch} {e : Env} {s : State} {m : MethodId} {args : Array Value} {below : List Frame} {meth : Method} {c : Code} {Q : State → Prop} {G : GG} {A : Nat → Prop} {q : Nat → Nat} {fr : va_W}
def f_X5_findsClasses_L80 (yp : Int32) (ye : Int32) (yg : Int32) (KK : (Nat → Int32) → (Nat → Int32) → Int32 → Option ((Nat → Int32) × (Nat → Int32))) : Nat → (Nat → Int32) → (Nat → Int32) → Int32 → Int32 → Int32 → Option ((Nat → Int32) × (Nat → Int32))
  | 0, _, _, _, _, _ => none
  | fu + 1, bPo, bTb, v2, v3, v4 =>
    if yp ≤ v4 then
    KK bPo bTb (v2 + 1)
    else
    if yp = 0 then none else
    if (((v3 - v4) + yp) - ((v3 - v4) + yp) / yp * yp) ≤ 0 then
    f_X5_findsClasses_L80 yp ye yg KK fu bPo bTb v2 v3 (v4 + 1)
    else
    (f_X5_classAt ye bPo v4).bind fun z4 =>
    (f_X5_classAt ye bPo (((v3 - v4) + yp) - ((v3 - v4) + yp) / yp * yp)).bind fun z5 =>
    (f_X5_at z4 z5 v2).bind fun z6 =>
    if inb z6 1728 then
    if inb z6 1728 then
    f_X5_findsClasses_L80 yp ye yg KK fu bPo (upd bTb z6.toNatClampNeg ((bTb z6.toNatClampNeg) + 1)) v2 v3 (v4 + 1)
    else none
    else none
set_option maxHeartbeats 4000000 in
set_option maxRecDepth 100000 in
theorem w_X5_findsClasses_L80  {yp : Int32} {ye : Int32} {yg : Int32} {wSh : Nat → Int64} {wTe : Nat → Int64} {wNx : Nat → Int64} {bOs : Nat → Int32} {bOn : Nat → Int32} {yop : Int32} {bSo : Nat → Int32} {bNu : Nat → Int32} {ytr : Int32} {yiw : Int32} {wMa : Nat → Int64} {wPr : Nat → Int64} {bTp : Nat → Int32} {yln : Int32} {ypl : Int32} {yfa : Int32} {wLi : Nat → Int64} {bSi : Nat → Int32} {yhp : Int32} {yhe : Int32} {yhg : Int32} {wHs : Nat → Int64} {yhi : Int32}  {KK : (Nat → Int32) → (Nat → Int32) → Int32 → Option ((Nat → Int32) × (Nat → Int32))} (F : Fx p s m args meth c cX5_findsClasses 6 RX5 none) (hA : ∀ q, s.heap.size ≤ q → A q)  (hK : ∀ (bPo : Nat → Int32) (bTb : Nat → Int32) (v2 : Int32) (z : (Nat → Int32) × (Nat → Int32)), KK bPo bTb v2 = some z → Ends p l e (rmOf 2 43) s m args below meth c Q cX5_findsClasses G A none (none) (mW G q yp ye yg z.1 z.2 wSh wTe wNx bOs bOn yop bSo bNu ytr yiw wMa wPr bTp yln ypl yfa wLi bSi yhp yhe yhg wHs yhi ++ fr) → ∀ (H : Heap) (locs : List Loc) (ls : Array Slot), Wd G s A (mW G q yp ye yg bPo bTb wSh wTe wNx bOs bOn yop bSo bNu ytr yiw wMa wPr bTp yln ypl yfa wLi bSi yhp yhe yhg wHs yhi ++ fr) H locs → lv_has ls 6 [(0, .ref (q 0)), (2, .int v2)] → W p l e (rmOf 2 43) s m args below meth c H locs 0 0 Q (F0 m 63 ls [])) : ∀ (fu : Nat) (bPo : Nat → Int32) (bTb : Nat → Int32) (v2 : Int32) (v3 : Int32) (v4 : Int32) (z : (Nat → Int32) × (Nat → Int32)), f_X5_findsClasses_L80 yp ye yg KK fu bPo bTb v2 v3 v4 = some z → Ends p l e (rmOf 2 43) s m args below meth c Q cX5_findsClasses G A none (none) (mW G q yp ye yg z.1 z.2 wSh wTe wNx bOs bOn yop bSo bNu ytr yiw wMa wPr bTp yln ypl yfa wLi bSi yhp yhe yhg wHs yhi ++ fr) → ∀ (H : Heap) (locs : List Loc) (ls : Array Slot), Wd G s A (mW G q yp ye yg bPo bTb wSh wTe wNx bOs bOn yop bSo bNu ytr yiw wMa wPr bTp yln ypl yfa wLi bSi yhp yhe yhg wHs yhi ++ fr) H locs → lv_has ls 6 [(0, .ref (q 0)), (2, .int v2), (3, .int v3), (4, .int v4)] → W p l e (rmOf 2 43) s m args below meth c H locs 0 0 Q (F0 m 80 ls []) := by
  have hx := F.x
  have hb := F.b
  intro fu
  induction fu with
  | zero =>
    intro bPo bTb v2 v3 v4 z h
    cases (h : none = some z)
  | succ fu ih =>
    intro bPo bTb v2 v3 v4 z h hE H locs ls hw hl
    rw [f_X5_findsClasses_L80] at h
    refine lv_iload hx hb dX5_findsClasses_80 (lv_at hl 3 rfl) ?_
    refine lv_aload_n hx hb dX5_findsClasses_82 rfl (lv_at hl 0 rfl) ?_
    refine gf_5_62 F hw dX5_findsClasses_83 ?_
    refine lv_icmp_ge (tgt := 141) hx hb dX5_findsClasses_86 (by decide) (fun c1 => ?_) (fun c1 => ?_)
    · replace h := stT c1 h
      refine lv_iinc (v := (v2 + 1)) (lv' := [(2, .int (v2 + 1)), (0, .ref (q 0)), (3, .int v3), (4, .int v4)]) hx hb dX5_findsClasses_141 hl (k := 1) rfl rfl (by decide) rfl (fun ls hl => ?_)
      refine lv_goto (tgt := 63) hx hb dX5_findsClasses_144 (by decide) ?_
      exact hK _ _ _ z h hE H locs ls hw (lv_sub hl [1, 0] rfl)
    · replace h := stF c1 h
      refine lv_iload_n hx hb dX5_findsClasses_89 rfl (lv_at hl 2 rfl) ?_
      refine lv_iload hx hb dX5_findsClasses_90 (lv_at hl 3 rfl) ?_
      refine lv_isub hx hb dX5_findsClasses_92 ?_
      refine lv_aload_n hx hb dX5_findsClasses_93 rfl (lv_at hl 0 rfl) ?_
      refine gf_5_62 F hw dX5_findsClasses_94 ?_
      refine lv_iadd hx hb dX5_findsClasses_97 ?_
      refine lv_aload_n hx hb dX5_findsClasses_98 rfl (lv_at hl 0 rfl) ?_
      refine gf_5_62 F hw dX5_findsClasses_99 ?_
      obtain ⟨g2, h⟩ := stD h
      refine lv_irem hx hb dX5_findsClasses_102 g2 ?_
      refine lv_istore (lv' := [(5, .int (((v3 - v4) + yp) - ((v3 - v4) + yp) / yp * yp)), (0, .ref (q 0)), (2, .int v2), (3, .int v3), (4, .int v4)]) hx hb dX5_findsClasses_103 hl (by decide) rfl (fun ls hl => ?_)
      refine lv_iload hx hb dX5_findsClasses_105 (lv_at hl 0 rfl) ?_
      refine lv_if_le (tgt := 135) hx hb dX5_findsClasses_107 (by decide) (fun c3 => ?_) (fun c3 => ?_)
      · replace h := stT c3 h
        refine lv_iinc (v := (v4 + 1)) (lv' := [(4, .int (v4 + 1)), (5, .int (((v3 - v4) + yp) - ((v3 - v4) + yp) / yp * yp)), (0, .ref (q 0)), (2, .int v2), (3, .int v3)]) hx hb dX5_findsClasses_135 hl (k := 4) rfl rfl (by decide) rfl (fun ls hl => ?_)
        refine lv_goto (tgt := 80) hx hb dX5_findsClasses_138 (by decide) ?_
        exact ih _ _ _ _ _ z h hE H locs ls hw (lv_sub hl [2, 3, 4, 0] rfl)
      · replace h := stF c3 h
        refine lv_aload_n hx hb dX5_findsClasses_110 rfl (lv_at hl 1 rfl) ?_
        refine gf_5_15 F hw dX5_findsClasses_111 ?_
        refine lv_aload_n hx hb dX5_findsClasses_114 rfl (lv_at hl 1 rfl) ?_
        refine lv_iload hx hb dX5_findsClasses_115 (lv_at hl 4 rfl) ?_
        obtain ⟨z4, hz4, h⟩ := stB h
        refine ctV (av := [.int v4]) (st0 := ([.ref (q 2)] : List Value)) (st1 := ([.int z4, .ref (q 2)] : List Value)) F hw hA (k_X5_classAt hz4) kl_5_83 kd_X5_classAt rfl ⟨by decide, by decide⟩ 0 rfl rfl hl.1 rfl (Nat.le_of_ble_eq_true rfl) dX5_findsClasses_117 rfl (fun H locs hw => ?_)
        refine lv_aload_n hx hb dX5_findsClasses_120 rfl (lv_at hl 1 rfl) ?_
        refine lv_iload hx hb dX5_findsClasses_121 (lv_at hl 0 rfl) ?_
        obtain ⟨z5, hz5, h⟩ := stB h
        refine ctV (av := [.int (((v3 - v4) + yp) - ((v3 - v4) + yp) / yp * yp)]) (st0 := ([.int z4, .ref (q 2)] : List Value)) (st1 := ([.int z5, .int z4, .ref (q 2)] : List Value)) F hw hA (k_X5_classAt hz5) kl_5_83 kd_X5_classAt rfl ⟨by decide, by decide⟩ 0 rfl rfl hl.1 rfl (Nat.le_of_ble_eq_true rfl) dX5_findsClasses_123 rfl (fun H locs hw => ?_)
        refine lv_iload_n hx hb dX5_findsClasses_126 rfl (lv_at hl 2 rfl) ?_
        obtain ⟨z6, hz6, h⟩ := stB h
        refine ctS (av := [.int z4, .int z5, .int v2]) (st0 := ([.ref (q 2)] : List Value)) (st1 := ([.int z6, .ref (q 2)] : List Value)) F hw hA (k_X5_at hz6) kl_5_86 kd_X5_at rfl ⟨by decide, by decide⟩ hl.1 rfl (Nat.le_of_ble_eq_true rfl) dX5_findsClasses_127 rfl (fun H locs hw => ?_)
        refine lv_dup2_11 hx hb dX5_findsClasses_130 rfl rfl ?_
        obtain ⟨g7, h⟩ := stG h
        refine al_m2 F hw g7 dX5_findsClasses_131 ?_
        refine lv_iconst (v := 1) hx hb dX5_findsClasses_132 (by decide) ?_
        refine lv_iadd hx hb dX5_findsClasses_133 ?_
        obtain ⟨g8, h⟩ := stG h
        refine as_m2 F hw g8 dX5_findsClasses_134 (fun H locs hw => ?_)
        refine lv_iinc (v := (v4 + 1)) (lv' := [(4, .int (v4 + 1)), (5, .int (((v3 - v4) + yp) - ((v3 - v4) + yp) / yp * yp)), (0, .ref (q 0)), (2, .int v2), (3, .int v3)]) hx hb dX5_findsClasses_135 hl (k := 4) rfl rfl (by decide) rfl (fun ls hl => ?_)
        refine lv_goto (tgt := 80) hx hb dX5_findsClasses_138 (by decide) ?_
        exact ih _ _ _ _ _ z h hE H locs ls hw (lv_sub hl [2, 3, 4, 0] rfl)
def f_X5_findsClasses_L63 (yp : Int32) (ye : Int32) (yg : Int32) : Nat → (Nat → Int32) → (Nat → Int32) → Int32 → Option ((Nat → Int32) × (Nat → Int32))
  | 0, _, _, _ => none
  | fu + 1, bPo, bTb, v2 =>
    if ye ≤ v2 then
    some (bPo, bTb)
    else
    (f_X5_firstOf ye bPo v2).bind fun z2 =>
    f_X5_findsClasses_L80 yp ye yg (fun w0 w1 w2 => f_X5_findsClasses_L63 yp ye yg fu w0 w1 w2) FU bPo bTb v2 z2 1
set_option maxHeartbeats 4000000 in
set_option maxRecDepth 100000 in
theorem w_X5_findsClasses_L63  {yp : Int32} {ye : Int32} {yg : Int32} {wSh : Nat → Int64} {wTe : Nat → Int64} {wNx : Nat → Int64} {bOs : Nat → Int32} {bOn : Nat → Int32} {yop : Int32} {bSo : Nat → Int32} {bNu : Nat → Int32} {ytr : Int32} {yiw : Int32} {wMa : Nat → Int64} {wPr : Nat → Int64} {bTp : Nat → Int32} {yln : Int32} {ypl : Int32} {yfa : Int32} {wLi : Nat → Int64} {bSi : Nat → Int32} {yhp : Int32} {yhe : Int32} {yhg : Int32} {wHs : Nat → Int64} {yhi : Int32}   (F : Fx p s m args meth c cX5_findsClasses 6 RX5 none) (hA : ∀ q, s.heap.size ≤ q → A q)   : ∀ (fu : Nat) (bPo : Nat → Int32) (bTb : Nat → Int32) (v2 : Int32) (z : (Nat → Int32) × (Nat → Int32)), f_X5_findsClasses_L63 yp ye yg fu bPo bTb v2 = some z → Ends p l e (rmOf 2 43) s m args below meth c Q cX5_findsClasses G A none (none) (mW G q yp ye yg z.1 z.2 wSh wTe wNx bOs bOn yop bSo bNu ytr yiw wMa wPr bTp yln ypl yfa wLi bSi yhp yhe yhg wHs yhi ++ fr) → ∀ (H : Heap) (locs : List Loc) (ls : Array Slot), Wd G s A (mW G q yp ye yg bPo bTb wSh wTe wNx bOs bOn yop bSo bNu ytr yiw wMa wPr bTp yln ypl yfa wLi bSi yhp yhe yhg wHs yhi ++ fr) H locs → lv_has ls 6 [(0, .ref (q 0)), (2, .int v2)] → W p l e (rmOf 2 43) s m args below meth c H locs 0 0 Q (F0 m 63 ls []) := by
  have hx := F.x
  have hb := F.b
  intro fu
  induction fu with
  | zero =>
    intro bPo bTb v2 z h
    cases (h : none = some z)
  | succ fu ih =>
    intro bPo bTb v2 z h hE H locs ls hw hl
    rw [f_X5_findsClasses_L63] at h
    refine lv_iload_n hx hb dX5_findsClasses_63 rfl (lv_at hl 1 rfl) ?_
    refine lv_aload_n hx hb dX5_findsClasses_64 rfl (lv_at hl 0 rfl) ?_
    refine gf_5_66 F hw dX5_findsClasses_65 ?_
    refine lv_icmp_ge (tgt := 147) hx hb dX5_findsClasses_68 (by decide) (fun c1 => ?_) (fun c1 => ?_)
    · replace h := stT c1 h
      obtain rfl := Option.some.inj h
      exact hE H locs _ ls hw dX5_findsClasses_147
    · replace h := stF c1 h
      refine lv_aload_n hx hb dX5_findsClasses_71 rfl (lv_at hl 0 rfl) ?_
      refine lv_iload_n hx hb dX5_findsClasses_72 rfl (lv_at hl 1 rfl) ?_
      obtain ⟨z2, hz2, h⟩ := stB h
      refine ctV (av := [.int v2]) (st0 := ([] : List Value)) (st1 := ([.int z2] : List Value)) F hw hA (k_X5_firstOf hz2) kl_5_79 kd_X5_firstOf rfl ⟨by decide, by decide⟩ 0 rfl rfl hl.1 rfl (Nat.le_of_ble_eq_true rfl) dX5_findsClasses_73 rfl (fun H locs hw => ?_)
      refine lv_istore_n (lv' := [(3, .int z2), (0, .ref (q 0)), (2, .int v2)]) hx hb dX5_findsClasses_76 rfl hl (by decide) rfl (fun ls hl => ?_)
      refine lv_iconst (v := 1) hx hb dX5_findsClasses_77 (by decide) ?_
      refine lv_istore (lv' := [(4, .int 1), (3, .int z2), (0, .ref (q 0)), (2, .int v2)]) hx hb dX5_findsClasses_78 hl (by decide) rfl (fun ls hl => ?_)
      exact w_X5_findsClasses_L80 F hA  (fun w0 w1 w2 z h hE H locs ls hw hl => ih w0 w1 w2 z h hE H locs ls hw hl) FU _ _ _ _ _ z h hE H locs ls hw (lv_sub hl [2, 3, 1, 0] rfl)
def f_X5_findsClasses_L41 (yp : Int32) (ye : Int32) (yg : Int32) : Nat → (Nat → Int32) → (Nat → Int32) → Int32 → Option ((Nat → Int32) × (Nat → Int32))
  | 0, _, _, _ => none
  | fu + 1, bPo, bTb, v2 =>
    if 1728 ≤ v2 then
    f_X5_findsClasses_L63 yp ye yg FU bPo bTb 0
    else
    if inb v2 1728 then
    f_X5_findsClasses_L41 yp ye yg fu bPo (upd bTb v2.toNatClampNeg 0) (v2 + 1)
    else none
set_option maxHeartbeats 4000000 in
set_option maxRecDepth 100000 in
theorem w_X5_findsClasses_L41  {yp : Int32} {ye : Int32} {yg : Int32} {wSh : Nat → Int64} {wTe : Nat → Int64} {wNx : Nat → Int64} {bOs : Nat → Int32} {bOn : Nat → Int32} {yop : Int32} {bSo : Nat → Int32} {bNu : Nat → Int32} {ytr : Int32} {yiw : Int32} {wMa : Nat → Int64} {wPr : Nat → Int64} {bTp : Nat → Int32} {yln : Int32} {ypl : Int32} {yfa : Int32} {wLi : Nat → Int64} {bSi : Nat → Int32} {yhp : Int32} {yhe : Int32} {yhg : Int32} {wHs : Nat → Int64} {yhi : Int32}   (F : Fx p s m args meth c cX5_findsClasses 6 RX5 none) (hA : ∀ q, s.heap.size ≤ q → A q)   : ∀ (fu : Nat) (bPo : Nat → Int32) (bTb : Nat → Int32) (v2 : Int32) (z : (Nat → Int32) × (Nat → Int32)), f_X5_findsClasses_L41 yp ye yg fu bPo bTb v2 = some z → Ends p l e (rmOf 2 43) s m args below meth c Q cX5_findsClasses G A none (none) (mW G q yp ye yg z.1 z.2 wSh wTe wNx bOs bOn yop bSo bNu ytr yiw wMa wPr bTp yln ypl yfa wLi bSi yhp yhe yhg wHs yhi ++ fr) → ∀ (H : Heap) (locs : List Loc) (ls : Array Slot), Wd G s A (mW G q yp ye yg bPo bTb wSh wTe wNx bOs bOn yop bSo bNu ytr yiw wMa wPr bTp yln ypl yfa wLi bSi yhp yhe yhg wHs yhi ++ fr) H locs → lv_has ls 6 [(0, .ref (q 0)), (2, .int v2)] → W p l e (rmOf 2 43) s m args below meth c H locs 0 0 Q (F0 m 41 ls []) := by
  have hx := F.x
  have hb := F.b
  intro fu
  induction fu with
  | zero =>
    intro bPo bTb v2 z h
    cases (h : none = some z)
  | succ fu ih =>
    intro bPo bTb v2 z h hE H locs ls hw hl
    rw [f_X5_findsClasses_L41] at h
    refine lv_iload_n hx hb dX5_findsClasses_41 rfl (lv_at hl 1 rfl) ?_
    refine lv_sipush (v := 1728) hx hb dX5_findsClasses_42 (by decide) ?_
    refine lv_icmp_ge (tgt := 61) hx hb dX5_findsClasses_45 (by decide) (fun c1 => ?_) (fun c1 => ?_)
    · replace h := stT c1 h
      refine lv_iconst (v := 0) hx hb dX5_findsClasses_61 (by decide) ?_
      refine lv_istore_n (lv' := [(2, .int 0), (0, .ref (q 0))]) hx hb dX5_findsClasses_62 rfl hl (by decide) rfl (fun ls hl => ?_)
      exact w_X5_findsClasses_L63 F hA  FU _ _ _ z h hE H locs ls hw (lv_sub hl [1, 0] rfl)
    · replace h := stF c1 h
      refine lv_aload_n hx hb dX5_findsClasses_48 rfl (lv_at hl 0 rfl) ?_
      refine gf_5_15 F hw dX5_findsClasses_49 ?_
      refine lv_iload_n hx hb dX5_findsClasses_52 rfl (lv_at hl 1 rfl) ?_
      refine lv_iconst (v := 0) hx hb dX5_findsClasses_53 (by decide) ?_
      obtain ⟨g2, h⟩ := stG h
      refine as_m2 F hw g2 dX5_findsClasses_54 (fun H locs hw => ?_)
      refine lv_iinc (v := (v2 + 1)) (lv' := [(2, .int (v2 + 1)), (0, .ref (q 0))]) hx hb dX5_findsClasses_55 hl (k := 1) rfl rfl (by decide) rfl (fun ls hl => ?_)
      refine lv_goto (tgt := 41) hx hb dX5_findsClasses_58 (by decide) ?_
      exact ih _ _ _ z h hE H locs ls hw (lv_sub hl [1, 0] rfl)
def f_X5_findsClasses_L4 (yp : Int32) (ye : Int32) (yg : Int32) : Nat → (Nat → Int32) → (Nat → Int32) → Int32 → Int32 → Option ((Nat → Int32) × (Nat → Int32))
  | 0, _, _, _, _ => none
  | fu + 1, bPo, bTb, v1, v2 =>
    if (yp - 1) ≤ v2 then
    f_X5_findsClasses_L41 yp ye yg FU bPo bTb 0
    else
    if inb v1 62 then
    if yp = 0 then none else
    f_X5_findsClasses_L4 yp ye yg fu (upd bPo v1.toNatClampNeg v2) bTb ((v1 * yg) - (v1 * yg) / yp * yp) (v2 + 1)
    else none
set_option maxHeartbeats 4000000 in
set_option maxRecDepth 100000 in
theorem w_X5_findsClasses_L4  {yp : Int32} {ye : Int32} {yg : Int32} {wSh : Nat → Int64} {wTe : Nat → Int64} {wNx : Nat → Int64} {bOs : Nat → Int32} {bOn : Nat → Int32} {yop : Int32} {bSo : Nat → Int32} {bNu : Nat → Int32} {ytr : Int32} {yiw : Int32} {wMa : Nat → Int64} {wPr : Nat → Int64} {bTp : Nat → Int32} {yln : Int32} {ypl : Int32} {yfa : Int32} {wLi : Nat → Int64} {bSi : Nat → Int32} {yhp : Int32} {yhe : Int32} {yhg : Int32} {wHs : Nat → Int64} {yhi : Int32}   (F : Fx p s m args meth c cX5_findsClasses 6 RX5 none) (hA : ∀ q, s.heap.size ≤ q → A q)   : ∀ (fu : Nat) (bPo : Nat → Int32) (bTb : Nat → Int32) (v1 : Int32) (v2 : Int32) (z : (Nat → Int32) × (Nat → Int32)), f_X5_findsClasses_L4 yp ye yg fu bPo bTb v1 v2 = some z → Ends p l e (rmOf 2 43) s m args below meth c Q cX5_findsClasses G A none (none) (mW G q yp ye yg z.1 z.2 wSh wTe wNx bOs bOn yop bSo bNu ytr yiw wMa wPr bTp yln ypl yfa wLi bSi yhp yhe yhg wHs yhi ++ fr) → ∀ (H : Heap) (locs : List Loc) (ls : Array Slot), Wd G s A (mW G q yp ye yg bPo bTb wSh wTe wNx bOs bOn yop bSo bNu ytr yiw wMa wPr bTp yln ypl yfa wLi bSi yhp yhe yhg wHs yhi ++ fr) H locs → lv_has ls 6 [(0, .ref (q 0)), (1, .int v1), (2, .int v2)] → W p l e (rmOf 2 43) s m args below meth c H locs 0 0 Q (F0 m 4 ls []) := by
  have hx := F.x
  have hb := F.b
  intro fu
  induction fu with
  | zero =>
    intro bPo bTb v1 v2 z h
    cases (h : none = some z)
  | succ fu ih =>
    intro bPo bTb v1 v2 z h hE H locs ls hw hl
    rw [f_X5_findsClasses_L4] at h
    refine lv_iload_n hx hb dX5_findsClasses_4 rfl (lv_at hl 2 rfl) ?_
    refine lv_aload_n hx hb dX5_findsClasses_5 rfl (lv_at hl 0 rfl) ?_
    refine gf_5_62 F hw dX5_findsClasses_6 ?_
    refine lv_iconst (v := 1) hx hb dX5_findsClasses_9 (by decide) ?_
    refine lv_isub hx hb dX5_findsClasses_10 ?_
    refine lv_icmp_ge (tgt := 39) hx hb dX5_findsClasses_11 (by decide) (fun c1 => ?_) (fun c1 => ?_)
    · replace h := stT c1 h
      refine lv_iconst (v := 0) hx hb dX5_findsClasses_39 (by decide) ?_
      refine lv_istore_n (lv' := [(2, .int 0), (0, .ref (q 0)), (1, .int v1)]) hx hb dX5_findsClasses_40 rfl hl (by decide) rfl (fun ls hl => ?_)
      exact w_X5_findsClasses_L41 F hA  FU _ _ _ z h hE H locs ls hw (lv_sub hl [1, 0] rfl)
    · replace h := stF c1 h
      refine lv_aload_n hx hb dX5_findsClasses_14 rfl (lv_at hl 0 rfl) ?_
      refine gf_5_11 F hw dX5_findsClasses_15 ?_
      refine lv_iload_n hx hb dX5_findsClasses_18 rfl (lv_at hl 1 rfl) ?_
      refine lv_iload_n hx hb dX5_findsClasses_19 rfl (lv_at hl 2 rfl) ?_
      obtain ⟨g2, h⟩ := stG h
      refine as_m1 F hw g2 dX5_findsClasses_20 (fun H locs hw => ?_)
      refine lv_iload_n hx hb dX5_findsClasses_21 rfl (lv_at hl 1 rfl) ?_
      refine lv_aload_n hx hb dX5_findsClasses_22 rfl (lv_at hl 0 rfl) ?_
      refine gf_5_69 F hw dX5_findsClasses_23 ?_
      refine lv_imul hx hb dX5_findsClasses_26 ?_
      refine lv_aload_n hx hb dX5_findsClasses_27 rfl (lv_at hl 0 rfl) ?_
      refine gf_5_62 F hw dX5_findsClasses_28 ?_
      obtain ⟨g3, h⟩ := stD h
      refine lv_irem hx hb dX5_findsClasses_31 g3 ?_
      refine lv_istore_n (lv' := [(1, .int ((v1 * yg) - (v1 * yg) / yp * yp)), (0, .ref (q 0)), (2, .int v2)]) hx hb dX5_findsClasses_32 rfl hl (by decide) rfl (fun ls hl => ?_)
      refine lv_iinc (v := (v2 + 1)) (lv' := [(2, .int (v2 + 1)), (1, .int ((v1 * yg) - (v1 * yg) / yp * yp)), (0, .ref (q 0))]) hx hb dX5_findsClasses_33 hl (k := 2) rfl rfl (by decide) rfl (fun ls hl => ?_)
      refine lv_goto (tgt := 4) hx hb dX5_findsClasses_36 (by decide) ?_
      exact ih _ _ _ _ z h hE H locs ls hw (lv_sub hl [2, 1, 0] rfl)
def f_X5_findsClasses (yp : Int32) (ye : Int32) (yg : Int32) (bPo : Nat → Int32) (bTb : Nat → Int32) : Option ((Nat → Int32) × (Nat → Int32)) :=
  f_X5_findsClasses_L4 yp ye yg FU bPo bTb 1 0
set_option maxHeartbeats 4000000 in
set_option maxRecDepth 100000 in
theorem k_X5_findsClasses {l : Launch} {G : GG} {q : Nat → Nat} {fr : va_W}  {yp : Int32} {ye : Int32} {yg : Int32} {bPo : Nat → Int32} {bTb : Nat → Int32} {wSh : Nat → Int64} {wTe : Nat → Int64} {wNx : Nat → Int64} {bOs : Nat → Int32} {bOn : Nat → Int32} {yop : Int32} {bSo : Nat → Int32} {bNu : Nat → Int32} {ytr : Int32} {yiw : Int32} {wMa : Nat → Int64} {wPr : Nat → Int64} {bTp : Nat → Int32} {yln : Int32} {ypl : Int32} {yfa : Int32} {wLi : Nat → Int64} {bSi : Nat → Int32} {yhp : Int32} {yhe : Int32} {yhg : Int32} {wHs : Nat → Int64} {yhi : Int32}  {z : (Nat → Int32) × (Nat → Int32)}  (h : f_X5_findsClasses yp ye yg bPo bTb = some z) : Ct l G yX5_findsClasses cX5_findsClasses 6 none 2 43 [.ref (q 0)] (mW G q yp ye yg bPo bTb wSh wTe wNx bOs bOn yop bSo bNu ytr yiw wMa wPr bTp yln ypl yfa wLi bSi yhp yhe yhg wHs yhi ++ fr) (none) (mW G q yp ye yg z.1 z.2 wSh wTe wNx bOs bOn yop bSo bNu ytr yiw wMa wPr bTp yln ypl yfa wLi bSi yhp yhe yhg wHs yhi ++ fr) := by
  refine Ct.of (by decide +kernel) (Nat.le_of_ble_eq_true rfl) trivial ?_
  intro p e s m args below meth c Q A ls F hw hA hE hl
  have hx := F.x
  have hb := F.b
  unfold f_X5_findsClasses at h
  obtain ⟨H, hH⟩ : ∃ H, H = s.heap := ⟨_, rfl⟩
  obtain ⟨locs, hlo⟩ : ∃ locs : List Loc, locs = [] := ⟨_, rfl⟩
  rw [← hH, ← hlo] at hw ⊢
  have hl : lv_has ls 6 [(0, .ref (q 0))] := hl
  refine lv_iconst (v := 1) hx hb dX5_findsClasses_0 (by decide) ?_
  refine lv_istore_n (lv' := [(1, .int 1), (0, .ref (q 0))]) hx hb dX5_findsClasses_1 rfl hl (by decide) rfl (fun ls hl => ?_)
  refine lv_iconst (v := 0) hx hb dX5_findsClasses_2 (by decide) ?_
  refine lv_istore_n (lv' := [(2, .int 0), (1, .int 1), (0, .ref (q 0))]) hx hb dX5_findsClasses_3 rfl hl (by decide) rfl (fun ls hl => ?_)
  exact w_X5_findsClasses_L4 F hA  FU _ _ _ _ z h hE H locs ls hw (lv_sub hl [2, 1, 0] rfl)
end
theorem dX5_begins_0 : decode cX5_begins 0 = .ok (.aload_n 0, 1) := by decide +kernel
theorem dX5_begins_1 : decode cX5_begins 1 = .ok (.iload_n 1, 1) := by decide +kernel
theorem dX5_begins_2 : decode cX5_begins 2 = .ok (.putfield 62, 3) := by decide +kernel
theorem dX5_begins_5 : decode cX5_begins 5 = .ok (.aload_n 0, 1) := by decide +kernel
theorem dX5_begins_6 : decode cX5_begins 6 = .ok (.iload_n 2, 1) := by decide +kernel
theorem dX5_begins_7 : decode cX5_begins 7 = .ok (.putfield 66, 3) := by decide +kernel
theorem dX5_begins_10 : decode cX5_begins 10 = .ok (.aload_n 0, 1) := by decide +kernel
theorem dX5_begins_11 : decode cX5_begins 11 = .ok (.iconst 1, 1) := by decide +kernel
theorem dX5_begins_12 : decode cX5_begins 12 = .ok (.putfield 69, 3) := by decide +kernel
theorem dX5_begins_15 : decode cX5_begins 15 = .ok (.aload_n 0, 1) := by decide +kernel
theorem dX5_begins_16 : decode cX5_begins 16 = .ok (.aload_n 0, 1) := by decide +kernel
theorem dX5_begins_17 : decode cX5_begins 17 = .ok (.getfield 69, 3) := by decide +kernel
theorem dX5_begins_20 : decode cX5_begins 20 = .ok (.invokevirtual 72, 3) := by decide +kernel
theorem dX5_begins_23 : decode cX5_begins 23 = .ok (.ifCond .ne 16, 3) := by decide +kernel
theorem dX5_begins_26 : decode cX5_begins 26 = .ok (.aload_n 0, 1) := by decide +kernel
theorem dX5_begins_27 : decode cX5_begins 27 = .ok (.dup, 1) := by decide +kernel
theorem dX5_begins_28 : decode cX5_begins 28 = .ok (.getfield 69, 3) := by decide +kernel
theorem dX5_begins_31 : decode cX5_begins 31 = .ok (.iconst 1, 1) := by decide +kernel
theorem dX5_begins_32 : decode cX5_begins 32 = .ok (.iadd, 1) := by decide +kernel
theorem dX5_begins_33 : decode cX5_begins 33 = .ok (.putfield 69, 3) := by decide +kernel
theorem dX5_begins_36 : decode cX5_begins 36 = .ok (.goto (-21), 3) := by decide +kernel
theorem dX5_begins_39 : decode cX5_begins 39 = .ok (.iconst 0, 1) := by decide +kernel
theorem dX5_begins_40 : decode cX5_begins 40 = .ok (.istore_n 3, 1) := by decide +kernel
theorem dX5_begins_41 : decode cX5_begins 41 = .ok (.iload_n 3, 1) := by decide +kernel
theorem dX5_begins_42 : decode cX5_begins 42 = .ok (.bipush 48, 2) := by decide +kernel
theorem dX5_begins_44 : decode cX5_begins 44 = .ok (.if_icmp .ge 16, 3) := by decide +kernel
theorem dX5_begins_47 : decode cX5_begins 47 = .ok (.aload_n 0, 1) := by decide +kernel
theorem dX5_begins_48 : decode cX5_begins 48 = .ok (.getfield 18, 3) := by decide +kernel
theorem dX5_begins_51 : decode cX5_begins 51 = .ok (.iload_n 3, 1) := by decide +kernel
theorem dX5_begins_52 : decode cX5_begins 52 = .ok (.lconst 0, 1) := by decide +kernel
theorem dX5_begins_53 : decode cX5_begins 53 = .ok (.lastore, 1) := by decide +kernel
theorem dX5_begins_54 : decode cX5_begins 54 = .ok (.iinc 3 1, 3) := by decide +kernel
theorem dX5_begins_57 : decode cX5_begins 57 = .ok (.goto (-16), 3) := by decide +kernel
theorem dX5_begins_60 : decode cX5_begins 60 = .ok (.aload_n 0, 1) := by decide +kernel
theorem dX5_begins_61 : decode cX5_begins 61 = .ok (.invokevirtual 76, 3) := by decide +kernel
theorem dX5_begins_64 : decode cX5_begins 64 = .ok (.return_, 1) := by decide +kernel
section
variable {p : Program} {l : Launch} {e : Env} {s : State} {m : MethodId} {args : Array Value} {below : List Frame} {meth : Method} {c : Code} {Q : State → Prop} {G : GG} {A : Nat → Prop} {q : Nat → Nat} {fr : va_W}
def f_X5_begins_L41 (v1 : Int32) (v2 : Int32) : Nat → Int32 → Int32 → Int32 → (Nat → Int32) → (Nat → Int32) → (Nat → Int64) → Int32 → Option (Int32 × Int32 × Int32 × (Nat → Int32) × (Nat → Int32) × (Nat → Int64))
  | 0, _, _, _, _, _, _, _ => none
  | fu + 1, yp, ye, yg, bPo, bTb, wSh, v3 =>
    if 48 ≤ v3 then
    (f_X5_findsClasses yp ye yg bPo bTb).bind fun z2 =>
    some (yp, ye, yg, z2.1, z2.2, wSh)
    else
    if inb v3 48 then
    f_X5_begins_L41 v1 v2 fu yp ye yg bPo bTb (vp_updL wSh v3.toNatClampNeg 0) (v3 + 1)
    else none
set_option maxHeartbeats 4000000 in
set_option maxRecDepth 100000 in
theorem w_X5_begins_L41  {wTe : Nat → Int64} {wNx : Nat → Int64} {bOs : Nat → Int32} {bOn : Nat → Int32} {yop : Int32} {bSo : Nat → Int32} {bNu : Nat → Int32} {ytr : Int32} {yiw : Int32} {wMa : Nat → Int64} {wPr : Nat → Int64} {bTp : Nat → Int32} {yln : Int32} {ypl : Int32} {yfa : Int32} {wLi : Nat → Int64} {bSi : Nat → Int32} {yhp : Int32} {yhe : Int32} {yhg : Int32} {wHs : Nat → Int64} {yhi : Int32} {v1 : Int32} {v2 : Int32}  (F : Fx p s m args meth c cX5_begins 4 RX5 none) (hA : ∀ q, s.heap.size ≤ q → A q)   : ∀ (fu : Nat) (yp : Int32) (ye : Int32) (yg : Int32) (bPo : Nat → Int32) (bTb : Nat → Int32) (wSh : Nat → Int64) (v3 : Int32) (z : Int32 × Int32 × Int32 × (Nat → Int32) × (Nat → Int32) × (Nat → Int64)), f_X5_begins_L41 v1 v2 fu yp ye yg bPo bTb wSh v3 = some z → Ends p l e (rmOf 3 68) s m args below meth c Q cX5_begins G A none (none) (mW G q z.1 z.2.1 z.2.2.1 z.2.2.2.1 z.2.2.2.2.1 z.2.2.2.2.2 wTe wNx bOs bOn yop bSo bNu ytr yiw wMa wPr bTp yln ypl yfa wLi bSi yhp yhe yhg wHs yhi ++ fr) → ∀ (H : Heap) (locs : List Loc) (ls : Array Slot), Wd G s A (mW G q yp ye yg bPo bTb wSh wTe wNx bOs bOn yop bSo bNu ytr yiw wMa wPr bTp yln ypl yfa wLi bSi yhp yhe yhg wHs yhi ++ fr) H locs → lv_has ls 4 [(0, .ref (q 0)), (3, .int v3)] → W p l e (rmOf 3 68) s m args below meth c H locs 0 0 Q (F0 m 41 ls []) := by
  have hx := F.x
  have hb := F.b
  intro fu
  induction fu with
  | zero =>
    intro yp ye yg bPo bTb wSh v3 z h
    cases (h : none = some z)
  | succ fu ih =>
    intro yp ye yg bPo bTb wSh v3 z h hE H locs ls hw hl
    rw [f_X5_begins_L41] at h
    refine lv_iload_n hx hb dX5_begins_41 rfl (lv_at hl 1 rfl) ?_
    refine lv_bipush (v := 48) hx hb dX5_begins_42 (by decide) ?_
    refine lv_icmp_ge (tgt := 60) hx hb dX5_begins_44 (by decide) (fun c1 => ?_) (fun c1 => ?_)
    · replace h := stT c1 h
      refine lv_aload_n hx hb dX5_begins_60 rfl (lv_at hl 0 rfl) ?_
      obtain ⟨z2, hz2, h⟩ := stB h
      refine ctV (av := []) (st0 := ([] : List Value)) (st1 := ([] : List Value)) F hw hA (k_X5_findsClasses hz2) kl_5_76 kd_X5_findsClasses rfl ⟨by decide, by decide⟩ 0 rfl rfl hl.1 rfl (Nat.le_of_ble_eq_true rfl) dX5_begins_61 rfl (fun H locs hw => ?_)
      obtain rfl := Option.some.inj h
      exact hE H locs _ ls hw dX5_begins_64
    · replace h := stF c1 h
      refine lv_aload_n hx hb dX5_begins_47 rfl (lv_at hl 0 rfl) ?_
      refine gf_5_18 F hw dX5_begins_48 ?_
      refine lv_iload_n hx hb dX5_begins_51 rfl (lv_at hl 1 rfl) ?_
      refine lv_lconst (v := 0) hx hb dX5_begins_52 (by decide) ?_
      obtain ⟨g3, h⟩ := stG h
      refine as_m3 F hw g3 dX5_begins_53 (fun H locs hw => ?_)
      refine lv_iinc (v := (v3 + 1)) (lv' := [(3, .int (v3 + 1)), (0, .ref (q 0))]) hx hb dX5_begins_54 hl (k := 1) rfl rfl (by decide) rfl (fun ls hl => ?_)
      refine lv_goto (tgt := 41) hx hb dX5_begins_57 (by decide) ?_
      exact ih _ _ _ _ _ _ _ z h hE H locs ls hw (lv_sub hl [1, 0] rfl)
def f_X5_begins_L15 (v1 : Int32) (v2 : Int32) : Nat → Int32 → Int32 → Int32 → (Nat → Int32) → (Nat → Int32) → (Nat → Int64) → Option (Int32 × Int32 × Int32 × (Nat → Int32) × (Nat → Int32) × (Nat → Int64))
  | 0, _, _, _, _, _, _ => none
  | fu + 1, yp, ye, yg, bPo, bTb, wSh =>
    (f_X5_isGenerator yp yg).bind fun z1 =>
    if z1 = 0 then
    f_X5_begins_L15 v1 v2 fu yp ye (yg + 1) bPo bTb wSh
    else
    f_X5_begins_L41 v1 v2 FU yp ye yg bPo bTb wSh 0
set_option maxHeartbeats 4000000 in
set_option maxRecDepth 100000 in
theorem w_X5_begins_L15  {wTe : Nat → Int64} {wNx : Nat → Int64} {bOs : Nat → Int32} {bOn : Nat → Int32} {yop : Int32} {bSo : Nat → Int32} {bNu : Nat → Int32} {ytr : Int32} {yiw : Int32} {wMa : Nat → Int64} {wPr : Nat → Int64} {bTp : Nat → Int32} {yln : Int32} {ypl : Int32} {yfa : Int32} {wLi : Nat → Int64} {bSi : Nat → Int32} {yhp : Int32} {yhe : Int32} {yhg : Int32} {wHs : Nat → Int64} {yhi : Int32} {v1 : Int32} {v2 : Int32}  (F : Fx p s m args meth c cX5_begins 4 RX5 none) (hA : ∀ q, s.heap.size ≤ q → A q)   : ∀ (fu : Nat) (yp : Int32) (ye : Int32) (yg : Int32) (bPo : Nat → Int32) (bTb : Nat → Int32) (wSh : Nat → Int64) (z : Int32 × Int32 × Int32 × (Nat → Int32) × (Nat → Int32) × (Nat → Int64)), f_X5_begins_L15 v1 v2 fu yp ye yg bPo bTb wSh = some z → Ends p l e (rmOf 3 68) s m args below meth c Q cX5_begins G A none (none) (mW G q z.1 z.2.1 z.2.2.1 z.2.2.2.1 z.2.2.2.2.1 z.2.2.2.2.2 wTe wNx bOs bOn yop bSo bNu ytr yiw wMa wPr bTp yln ypl yfa wLi bSi yhp yhe yhg wHs yhi ++ fr) → ∀ (H : Heap) (locs : List Loc) (ls : Array Slot), Wd G s A (mW G q yp ye yg bPo bTb wSh wTe wNx bOs bOn yop bSo bNu ytr yiw wMa wPr bTp yln ypl yfa wLi bSi yhp yhe yhg wHs yhi ++ fr) H locs → lv_has ls 4 [(0, .ref (q 0))] → W p l e (rmOf 3 68) s m args below meth c H locs 0 0 Q (F0 m 15 ls []) := by
  have hx := F.x
  have hb := F.b
  intro fu
  induction fu with
  | zero =>
    intro yp ye yg bPo bTb wSh z h
    cases (h : none = some z)
  | succ fu ih =>
    intro yp ye yg bPo bTb wSh z h hE H locs ls hw hl
    rw [f_X5_begins_L15] at h
    refine lv_aload_n hx hb dX5_begins_15 rfl (lv_at hl 0 rfl) ?_
    refine lv_aload_n hx hb dX5_begins_16 rfl (lv_at hl 0 rfl) ?_
    refine gf_5_69 F hw dX5_begins_17 ?_
    obtain ⟨z1, hz1, h⟩ := stB h
    refine ctV (av := [.int yg]) (st0 := ([] : List Value)) (st1 := ([.int z1] : List Value)) F hw hA (k_X5_isGenerator hz1) kl_5_72 kd_X5_isGenerator rfl ⟨by decide, by decide⟩ 0 rfl rfl hl.1 rfl (Nat.le_of_ble_eq_true rfl) dX5_begins_20 rfl (fun H locs hw => ?_)
    refine lv_if_ne (tgt := 39) hx hb dX5_begins_23 (by decide) (fun c2 => ?_) (fun c2 => ?_)
    · replace h := stF c2 h
      refine lv_iconst (v := 0) hx hb dX5_begins_39 (by decide) ?_
      refine lv_istore_n (lv' := [(3, .int 0), (0, .ref (q 0))]) hx hb dX5_begins_40 rfl hl (by decide) rfl (fun ls hl => ?_)
      exact w_X5_begins_L41 F hA  FU _ _ _ _ _ _ _ z h hE H locs ls hw (lv_sub hl [1, 0] rfl)
    · replace h := stT c2 h
      refine lv_aload_n hx hb dX5_begins_26 rfl (lv_at hl 0 rfl) ?_
      refine lv_dup hx hb dX5_begins_27 rfl ?_
      refine gf_5_69 F hw dX5_begins_28 ?_
      refine lv_iconst (v := 1) hx hb dX5_begins_31 (by decide) ?_
      refine lv_iadd hx hb dX5_begins_32 ?_
      refine pf_5_69 F hw dX5_begins_33 (fun H locs hw => ?_)
      refine lv_goto (tgt := 15) hx hb dX5_begins_36 (by decide) ?_
      exact ih _ _ _ _ _ _ z h hE H locs ls hw (lv_sub hl [0] rfl)
def f_X5_begins (yp : Int32) (ye : Int32) (yg : Int32) (bPo : Nat → Int32) (bTb : Nat → Int32) (wSh : Nat → Int64) (v1 : Int32) (v2 : Int32) : Option (Int32 × Int32 × Int32 × (Nat → Int32) × (Nat → Int32) × (Nat → Int64)) :=
  f_X5_begins_L15 v1 v2 FU v1 v2 1 bPo bTb wSh
set_option maxHeartbeats 4000000 in
set_option maxRecDepth 100000 in
theorem k_X5_begins {l : Launch} {G : GG} {q : Nat → Nat} {fr : va_W}  {yp : Int32} {ye : Int32} {yg : Int32} {bPo : Nat → Int32} {bTb : Nat → Int32} {wSh : Nat → Int64} {wTe : Nat → Int64} {wNx : Nat → Int64} {bOs : Nat → Int32} {bOn : Nat → Int32} {yop : Int32} {bSo : Nat → Int32} {bNu : Nat → Int32} {ytr : Int32} {yiw : Int32} {wMa : Nat → Int64} {wPr : Nat → Int64} {bTp : Nat → Int32} {yln : Int32} {ypl : Int32} {yfa : Int32} {wLi : Nat → Int64} {bSi : Nat → Int32} {yhp : Int32} {yhe : Int32} {yhg : Int32} {wHs : Nat → Int64} {yhi : Int32} {v1 : Int32} {v2 : Int32} {z : Int32 × Int32 × Int32 × (Nat → Int32) × (Nat → Int32) × (Nat → Int64)}  (h : f_X5_begins yp ye yg bPo bTb wSh v1 v2 = some z) : Ct l G yX5_begins cX5_begins 4 none 3 68 [.ref (q 0), .int v1, .int v2] (mW G q yp ye yg bPo bTb wSh wTe wNx bOs bOn yop bSo bNu ytr yiw wMa wPr bTp yln ypl yfa wLi bSi yhp yhe yhg wHs yhi ++ fr) (none) (mW G q z.1 z.2.1 z.2.2.1 z.2.2.2.1 z.2.2.2.2.1 z.2.2.2.2.2 wTe wNx bOs bOn yop bSo bNu ytr yiw wMa wPr bTp yln ypl yfa wLi bSi yhp yhe yhg wHs yhi ++ fr) := by
  refine Ct.of (by decide +kernel) (Nat.le_of_ble_eq_true rfl) trivial ?_
  intro p e s m args below meth c Q A ls F hw hA hE hl
  have hx := F.x
  have hb := F.b
  unfold f_X5_begins at h
  obtain ⟨H, hH⟩ : ∃ H, H = s.heap := ⟨_, rfl⟩
  obtain ⟨locs, hlo⟩ : ∃ locs : List Loc, locs = [] := ⟨_, rfl⟩
  rw [← hH, ← hlo] at hw ⊢
  have hl : lv_has ls 4 [(0, .ref (q 0)), (1, .int v1), (2, .int v2)] := hl
  refine lv_aload_n hx hb dX5_begins_0 rfl (lv_at hl 0 rfl) ?_
  refine lv_iload_n hx hb dX5_begins_1 rfl (lv_at hl 1 rfl) ?_
  refine pf_5_62 F hw dX5_begins_2 (fun H locs hw => ?_)
  refine lv_aload_n hx hb dX5_begins_5 rfl (lv_at hl 0 rfl) ?_
  refine lv_iload_n hx hb dX5_begins_6 rfl (lv_at hl 2 rfl) ?_
  refine pf_5_66 F hw dX5_begins_7 (fun H locs hw => ?_)
  refine lv_aload_n hx hb dX5_begins_10 rfl (lv_at hl 0 rfl) ?_
  refine lv_iconst (v := 1) hx hb dX5_begins_11 (by decide) ?_
  refine pf_5_69 F hw dX5_begins_12 (fun H locs hw => ?_)
  exact w_X5_begins_L15 F hA  FU _ _ _ _ _ _ z h hE H locs ls hw (lv_sub hl [0] rfl)
end
theorem dX5_isClass_0 : decode cX5_isClass 0 = .ok (.iload_n 1, 1) := by decide +kernel
theorem dX5_isClass_1 : decode cX5_isClass 1 = .ok (.i2l, 1) := by decide +kernel
theorem dX5_isClass_2 : decode cX5_isClass 2 = .ok (.lconst 0, 1) := by decide +kernel
theorem dX5_isClass_3 : decode cX5_isClass 3 = .ok (.aload_n 0, 1) := by decide +kernel
theorem dX5_isClass_4 : decode cX5_isClass 4 = .ok (.getfield 66, 3) := by decide +kernel
theorem dX5_isClass_7 : decode cX5_isClass 7 = .ok (.iconst 1, 1) := by decide +kernel
theorem dX5_isClass_8 : decode cX5_isClass 8 = .ok (.isub, 1) := by decide +kernel
theorem dX5_isClass_9 : decode cX5_isClass 9 = .ok (.i2l, 1) := by decide +kernel
theorem dX5_isClass_10 : decode cX5_isClass 10 = .ok (.invokestatic 90, 3) := by decide +kernel
theorem dX5_isClass_13 : decode cX5_isClass 13 = .ok (.ireturn, 1) := by decide +kernel
section
variable {p : Program} {l : Launch} {e : Env} {s : State} {m : MethodId} {args : Array Value} {below : List Frame} {meth : Method} {c : Code} {Q : State → Prop} {G : GG} {A : Nat → Prop} {q : Nat → Nat} {fr : va_W}
def f_X5_isClass (ye : Int32) (v1 : Int32) : Option (Int32) :=
  (f_X5_in v1.toInt64 0 ((ye - 1).toInt64)).bind fun z1 =>
  if z1 = 0 ∨ z1 = 1 then
  some z1
  else none
set_option maxHeartbeats 4000000 in
set_option maxRecDepth 100000 in
theorem k_X5_isClass {l : Launch} {G : GG} {q : Nat → Nat} {fr : va_W}  {yp : Int32} {ye : Int32} {yg : Int32} {bPo : Nat → Int32} {bTb : Nat → Int32} {wSh : Nat → Int64} {wTe : Nat → Int64} {wNx : Nat → Int64} {bOs : Nat → Int32} {bOn : Nat → Int32} {yop : Int32} {bSo : Nat → Int32} {bNu : Nat → Int32} {ytr : Int32} {yiw : Int32} {wMa : Nat → Int64} {wPr : Nat → Int64} {bTp : Nat → Int32} {yln : Int32} {ypl : Int32} {yfa : Int32} {wLi : Nat → Int64} {bSi : Nat → Int32} {yhp : Int32} {yhe : Int32} {yhg : Int32} {wHs : Nat → Int64} {yhi : Int32} {v1 : Int32} {z : Int32}  (h : f_X5_isClass ye v1 = some z) : Ct l G yX5_isClass cX5_isClass 2 (some .boolean) 1 25 [.ref (q 0), .int v1] (mW G q yp ye yg bPo bTb wSh wTe wNx bOs bOn yop bSo bNu ytr yiw wMa wPr bTp yln ypl yfa wLi bSi yhp yhe yhg wHs yhi ++ fr) (some (.int z)) (mW G q yp ye yg bPo bTb wSh wTe wNx bOs bOn yop bSo bNu ytr yiw wMa wPr bTp yln ypl yfa wLi bSi yhp yhe yhg wHs yhi ++ fr) := by
  refine Ct.of (by decide +kernel) (Nat.le_of_ble_eq_true rfl) trivial ?_
  intro p e s m args below meth c Q A ls F hw hA hE hl
  have hx := F.x
  have hb := F.b
  unfold f_X5_isClass at h
  obtain ⟨H, hH⟩ : ∃ H, H = s.heap := ⟨_, rfl⟩
  obtain ⟨locs, hlo⟩ : ∃ locs : List Loc, locs = [] := ⟨_, rfl⟩
  rw [← hH, ← hlo] at hw ⊢
  have hl : lv_has ls 2 [(0, .ref (q 0)), (1, .int v1)] := hl
  refine lv_iload_n hx hb dX5_isClass_0 rfl (lv_at hl 1 rfl) ?_
  refine lv_i2l (v := v1.toInt64) hx hb dX5_isClass_1 rfl ?_
  refine lv_lconst (v := 0) hx hb dX5_isClass_2 (by decide) ?_
  refine lv_aload_n hx hb dX5_isClass_3 rfl (lv_at hl 0 rfl) ?_
  refine gf_5_66 F hw dX5_isClass_4 ?_
  refine lv_iconst (v := 1) hx hb dX5_isClass_7 (by decide) ?_
  refine lv_isub hx hb dX5_isClass_8 ?_
  refine lv_i2l (v := (ye - 1).toInt64) hx hb dX5_isClass_9 rfl ?_
  obtain ⟨z1, hz1, h⟩ := stB h
  refine ctS (av := [.long v1.toInt64, .long 0, .long ((ye - 1).toInt64)]) (st0 := ([] : List Value)) (st1 := ([.int z1] : List Value)) F hw hA (k_X5_in hz1) kl_5_90 kd_X5_in rfl ⟨by decide, by decide⟩ hl.1 rfl (Nat.le_of_ble_eq_true rfl) dX5_isClass_10 rfl (fun H locs hw => ?_)
  obtain ⟨g2, h⟩ := stG h
  obtain rfl := Option.some.inj h
  exact hE H locs _ ls hw g2 dX5_isClass_13
end
theorem dX5_isNumber_0 : decode cX5_isNumber 0 = .ok (.iload_n 1, 1) := by decide +kernel
theorem dX5_isNumber_1 : decode cX5_isNumber 1 = .ok (.i2l, 1) := by decide +kernel
theorem dX5_isNumber_2 : decode cX5_isNumber 2 = .ok (.lconst 1, 1) := by decide +kernel
theorem dX5_isNumber_3 : decode cX5_isNumber 3 = .ok (.aload_n 0, 1) := by decide +kernel
theorem dX5_isNumber_4 : decode cX5_isNumber 4 = .ok (.getfield 62, 3) := by decide +kernel
theorem dX5_isNumber_7 : decode cX5_isNumber 7 = .ok (.iconst 1, 1) := by decide +kernel
theorem dX5_isNumber_8 : decode cX5_isNumber 8 = .ok (.isub, 1) := by decide +kernel
theorem dX5_isNumber_9 : decode cX5_isNumber 9 = .ok (.i2l, 1) := by decide +kernel
theorem dX5_isNumber_10 : decode cX5_isNumber 10 = .ok (.invokestatic 90, 3) := by decide +kernel
theorem dX5_isNumber_13 : decode cX5_isNumber 13 = .ok (.ireturn, 1) := by decide +kernel
section
variable {p : Program} {l : Launch} {e : Env} {s : State} {m : MethodId} {args : Array Value} {below : List Frame} {meth : Method} {c : Code} {Q : State → Prop} {G : GG} {A : Nat → Prop} {q : Nat → Nat} {fr : va_W}
def f_X5_isNumber (yp : Int32) (v1 : Int32) : Option (Int32) :=
  (f_X5_in v1.toInt64 1 ((yp - 1).toInt64)).bind fun z1 =>
  if z1 = 0 ∨ z1 = 1 then
  some z1
  else none
set_option maxHeartbeats 4000000 in
set_option maxRecDepth 100000 in
theorem k_X5_isNumber {l : Launch} {G : GG} {q : Nat → Nat} {fr : va_W}  {yp : Int32} {ye : Int32} {yg : Int32} {bPo : Nat → Int32} {bTb : Nat → Int32} {wSh : Nat → Int64} {wTe : Nat → Int64} {wNx : Nat → Int64} {bOs : Nat → Int32} {bOn : Nat → Int32} {yop : Int32} {bSo : Nat → Int32} {bNu : Nat → Int32} {ytr : Int32} {yiw : Int32} {wMa : Nat → Int64} {wPr : Nat → Int64} {bTp : Nat → Int32} {yln : Int32} {ypl : Int32} {yfa : Int32} {wLi : Nat → Int64} {bSi : Nat → Int32} {yhp : Int32} {yhe : Int32} {yhg : Int32} {wHs : Nat → Int64} {yhi : Int32} {v1 : Int32} {z : Int32}  (h : f_X5_isNumber yp v1 = some z) : Ct l G yX5_isNumber cX5_isNumber 2 (some .boolean) 1 25 [.ref (q 0), .int v1] (mW G q yp ye yg bPo bTb wSh wTe wNx bOs bOn yop bSo bNu ytr yiw wMa wPr bTp yln ypl yfa wLi bSi yhp yhe yhg wHs yhi ++ fr) (some (.int z)) (mW G q yp ye yg bPo bTb wSh wTe wNx bOs bOn yop bSo bNu ytr yiw wMa wPr bTp yln ypl yfa wLi bSi yhp yhe yhg wHs yhi ++ fr) := by
  refine Ct.of (by decide +kernel) (Nat.le_of_ble_eq_true rfl) trivial ?_
  intro p e s m args below meth c Q A ls F hw hA hE hl
  have hx := F.x
  have hb := F.b
  unfold f_X5_isNumber at h
  obtain ⟨H, hH⟩ : ∃ H, H = s.heap := ⟨_, rfl⟩
  obtain ⟨locs, hlo⟩ : ∃ locs : List Loc, locs = [] := ⟨_, rfl⟩
  rw [← hH, ← hlo] at hw ⊢
  have hl : lv_has ls 2 [(0, .ref (q 0)), (1, .int v1)] := hl
  refine lv_iload_n hx hb dX5_isNumber_0 rfl (lv_at hl 1 rfl) ?_
  refine lv_i2l (v := v1.toInt64) hx hb dX5_isNumber_1 rfl ?_
  refine lv_lconst (v := 1) hx hb dX5_isNumber_2 (by decide) ?_
  refine lv_aload_n hx hb dX5_isNumber_3 rfl (lv_at hl 0 rfl) ?_
  refine gf_5_62 F hw dX5_isNumber_4 ?_
  refine lv_iconst (v := 1) hx hb dX5_isNumber_7 (by decide) ?_
  refine lv_isub hx hb dX5_isNumber_8 ?_
  refine lv_i2l (v := (yp - 1).toInt64) hx hb dX5_isNumber_9 rfl ?_
  obtain ⟨z1, hz1, h⟩ := stB h
  refine ctS (av := [.long v1.toInt64, .long 1, .long ((yp - 1).toInt64)]) (st0 := ([] : List Value)) (st1 := ([.int z1] : List Value)) F hw hA (k_X5_in hz1) kl_5_90 kd_X5_in rfl ⟨by decide, by decide⟩ hl.1 rfl (Nat.le_of_ble_eq_true rfl) dX5_isNumber_10 rfl (fun H locs hw => ?_)
  obtain ⟨g2, h⟩ := stG h
  obtain rfl := Option.some.inj h
  exact hE H locs _ ls hw g2 dX5_isNumber_13
end
theorem dX5_field_0 : decode cX5_field 0 = .ok (.iload_n 1, 1) := by decide +kernel
theorem dX5_field_1 : decode cX5_field 1 = .ok (.i2l, 1) := by decide +kernel
theorem dX5_field_2 : decode cX5_field 2 = .ok (.ldc2_w 94, 3) := by decide +kernel
theorem dX5_field_5 : decode cX5_field 5 = .ok (.ldc2_w 96, 3) := by decide +kernel
theorem dX5_field_8 : decode cX5_field 8 = .ok (.invokestatic 90, 3) := by decide +kernel
theorem dX5_field_11 : decode cX5_field 11 = .ok (.ifCond .eq 10, 3) := by decide +kernel
theorem dX5_field_14 : decode cX5_field 14 = .ok (.iload_n 1, 1) := by decide +kernel
theorem dX5_field_15 : decode cX5_field 15 = .ok (.invokestatic 98, 3) := by decide +kernel
theorem dX5_field_18 : decode cX5_field 18 = .ok (.ifCond .ne 6, 3) := by decide +kernel
theorem dX5_field_21 : decode cX5_field 21 = .ok (.bipush (-2), 2) := by decide +kernel
theorem dX5_field_23 : decode cX5_field 23 = .ok (.ireturn, 1) := by decide +kernel
theorem dX5_field_24 : decode cX5_field 24 = .ok (.iload_n 2, 1) := by decide +kernel
theorem dX5_field_25 : decode cX5_field 25 = .ok (.i2l, 1) := by decide +kernel
theorem dX5_field_26 : decode cX5_field 26 = .ok (.lconst 1, 1) := by decide +kernel
theorem dX5_field_27 : decode cX5_field 27 = .ok (.ldc2_w 101, 3) := by decide +kernel
theorem dX5_field_30 : decode cX5_field 30 = .ok (.invokestatic 90, 3) := by decide +kernel
theorem dX5_field_33 : decode cX5_field 33 = .ok (.ifCond .eq 11, 3) := by decide +kernel
theorem dX5_field_36 : decode cX5_field 36 = .ok (.iload_n 1, 1) := by decide +kernel
theorem dX5_field_37 : decode cX5_field 37 = .ok (.iconst 1, 1) := by decide +kernel
theorem dX5_field_38 : decode cX5_field 38 = .ok (.isub, 1) := by decide +kernel
theorem dX5_field_39 : decode cX5_field 39 = .ok (.iload_n 2, 1) := by decide +kernel
theorem dX5_field_40 : decode cX5_field 40 = .ok (.irem, 1) := by decide +kernel
theorem dX5_field_41 : decode cX5_field 41 = .ok (.ifCond .eq 6, 3) := by decide +kernel
theorem dX5_field_44 : decode cX5_field 44 = .ok (.bipush (-3), 2) := by decide +kernel
theorem dX5_field_46 : decode cX5_field 46 = .ok (.ireturn, 1) := by decide +kernel
theorem dX5_field_47 : decode cX5_field 47 = .ok (.aload_n 0, 1) := by decide +kernel
theorem dX5_field_48 : decode cX5_field 48 = .ok (.getfield 62, 3) := by decide +kernel
theorem dX5_field_51 : decode cX5_field 51 = .ok (.istore_n 3, 1) := by decide +kernel
theorem dX5_field_52 : decode cX5_field 52 = .ok (.aload_n 0, 1) := by decide +kernel
theorem dX5_field_53 : decode cX5_field 53 = .ok (.iload_n 1, 1) := by decide +kernel
theorem dX5_field_54 : decode cX5_field 54 = .ok (.iload_n 2, 1) := by decide +kernel
theorem dX5_field_55 : decode cX5_field 55 = .ok (.invokevirtual 58, 3) := by decide +kernel
theorem dX5_field_58 : decode cX5_field 58 = .ok (.iload_n 3, 1) := by decide +kernel
theorem dX5_field_59 : decode cX5_field 59 = .ok (.ireturn, 1) := by decide +kernel
section
variable {p : Program} {l : Launch} {e : Env} {s : State} {m : MethodId} {args : Array Value} {below : List Frame} {meth : Method} {c : Code} {Q : State → Prop} {G : GG} {A : Nat → Prop} {q : Nat → Nat} {fr : va_W}
def f_X5_field (yp : Int32) (ye : Int32) (yg : Int32) (bPo : Nat → Int32) (bTb : Nat → Int32) (wSh : Nat → Int64) (v1 : Int32) (v2 : Int32) : Option (Int32 × Int32 × Int32 × Int32 × (Nat → Int32) × (Nat → Int32) × (Nat → Int64)) :=
  (f_X5_in v1.toInt64 3 61).bind fun z1 =>
  if z1 = 0 then
  some ((-2), yp, ye, yg, bPo, bTb, wSh)
  else
  (f_X5_isPrime v1).bind fun z3 =>
  if z3 = 0 then
  some ((-2), yp, ye, yg, bPo, bTb, wSh)
  else
  (f_X5_in v2.toInt64 1 12).bind fun z5 =>
  if z5 = 0 then
  some ((-3), yp, ye, yg, bPo, bTb, wSh)
  else
  if v2 = 0 then none else
  if ((v1 - 1) - (v1 - 1) / v2 * v2) = 0 then
  (f_X5_begins yp ye yg bPo bTb wSh v1 v2).bind fun z9 =>
  some (yp, z9.1, z9.2.1, z9.2.2.1, z9.2.2.2.1, z9.2.2.2.2.1, z9.2.2.2.2.2)
  else
  some ((-3), yp, ye, yg, bPo, bTb, wSh)
set_option maxHeartbeats 4000000 in
set_option maxRecDepth 100000 in
theorem k_X5_field {l : Launch} {G : GG} {q : Nat → Nat} {fr : va_W}  {yp : Int32} {ye : Int32} {yg : Int32} {bPo : Nat → Int32} {bTb : Nat → Int32} {wSh : Nat → Int64} {wTe : Nat → Int64} {wNx : Nat → Int64} {bOs : Nat → Int32} {bOn : Nat → Int32} {yop : Int32} {bSo : Nat → Int32} {bNu : Nat → Int32} {ytr : Int32} {yiw : Int32} {wMa : Nat → Int64} {wPr : Nat → Int64} {bTp : Nat → Int32} {yln : Int32} {ypl : Int32} {yfa : Int32} {wLi : Nat → Int64} {bSi : Nat → Int32} {yhp : Int32} {yhe : Int32} {yhg : Int32} {wHs : Nat → Int64} {yhi : Int32} {v1 : Int32} {v2 : Int32} {z : Int32 × Int32 × Int32 × Int32 × (Nat → Int32) × (Nat → Int32) × (Nat → Int64)}  (h : f_X5_field yp ye yg bPo bTb wSh v1 v2 = some z) : Ct l G yX5_field cX5_field 4 (some .int) 4 91 [.ref (q 0), .int v1, .int v2] (mW G q yp ye yg bPo bTb wSh wTe wNx bOs bOn yop bSo bNu ytr yiw wMa wPr bTp yln ypl yfa wLi bSi yhp yhe yhg wHs yhi ++ fr) (some (.int z.1)) (mW G q z.2.1 z.2.2.1 z.2.2.2.1 z.2.2.2.2.1 z.2.2.2.2.2.1 z.2.2.2.2.2.2 wTe wNx bOs bOn yop bSo bNu ytr yiw wMa wPr bTp yln ypl yfa wLi bSi yhp yhe yhg wHs yhi ++ fr) := by
  refine Ct.of (by decide +kernel) (Nat.le_of_ble_eq_true rfl) trivial ?_
  intro p e s m args below meth c Q A ls F hw hA hE hl
  have hx := F.x
  have hb := F.b
  unfold f_X5_field at h
  obtain ⟨H, hH⟩ : ∃ H, H = s.heap := ⟨_, rfl⟩
  obtain ⟨locs, hlo⟩ : ∃ locs : List Loc, locs = [] := ⟨_, rfl⟩
  rw [← hH, ← hlo] at hw ⊢
  have hl : lv_has ls 4 [(0, .ref (q 0)), (1, .int v1), (2, .int v2)] := hl
  refine lv_iload_n hx hb dX5_field_0 rfl (lv_at hl 1 rfl) ?_
  refine lv_i2l (v := v1.toInt64) hx hb dX5_field_1 rfl ?_
  refine lv_ldc2 (v := 3) hx hb F.ow (F.ts _ kc_5_94) dX5_field_2 ?_
  refine lv_ldc2 (v := 61) hx hb F.ow (F.ts _ kc_5_96) dX5_field_5 ?_
  obtain ⟨z1, hz1, h⟩ := stB h
  refine ctS (av := [.long v1.toInt64, .long 3, .long 61]) (st0 := ([] : List Value)) (st1 := ([.int z1] : List Value)) F hw hA (k_X5_in hz1) kl_5_90 kd_X5_in rfl ⟨by decide, by decide⟩ hl.1 rfl (Nat.le_of_ble_eq_true rfl) dX5_field_8 rfl (fun H locs hw => ?_)
  refine lv_if_eq (tgt := 21) hx hb dX5_field_11 (by decide) (fun c2 => ?_) (fun c2 => ?_)
  · replace h := stT c2 h
    refine lv_bipush (v := -2) hx hb dX5_field_21 (by decide) ?_
    obtain rfl := Option.some.inj h
    exact hE H locs _ ls hw dX5_field_23
  · replace h := stF c2 h
    refine lv_iload_n hx hb dX5_field_14 rfl (lv_at hl 1 rfl) ?_
    obtain ⟨z3, hz3, h⟩ := stB h
    refine ctS (av := [.int v1]) (st0 := ([] : List Value)) (st1 := ([.int z3] : List Value)) F hw hA (k_X5_isPrime hz3) kl_5_98 kd_X5_isPrime rfl ⟨by decide, by decide⟩ hl.1 rfl (Nat.le_of_ble_eq_true rfl) dX5_field_15 rfl (fun H locs hw => ?_)
    refine lv_if_ne (tgt := 24) hx hb dX5_field_18 (by decide) (fun c4 => ?_) (fun c4 => ?_)
    · replace h := stF c4 h
      refine lv_iload_n hx hb dX5_field_24 rfl (lv_at hl 2 rfl) ?_
      refine lv_i2l (v := v2.toInt64) hx hb dX5_field_25 rfl ?_
      refine lv_lconst (v := 1) hx hb dX5_field_26 (by decide) ?_
      refine lv_ldc2 (v := 12) hx hb F.ow (F.ts _ kc_5_101) dX5_field_27 ?_
      obtain ⟨z5, hz5, h⟩ := stB h
      refine ctS (av := [.long v2.toInt64, .long 1, .long 12]) (st0 := ([] : List Value)) (st1 := ([.int z5] : List Value)) F hw hA (k_X5_in hz5) kl_5_90 kd_X5_in rfl ⟨by decide, by decide⟩ hl.1 rfl (Nat.le_of_ble_eq_true rfl) dX5_field_30 rfl (fun H locs hw => ?_)
      refine lv_if_eq (tgt := 44) hx hb dX5_field_33 (by decide) (fun c6 => ?_) (fun c6 => ?_)
      · replace h := stT c6 h
        refine lv_bipush (v := -3) hx hb dX5_field_44 (by decide) ?_
        obtain rfl := Option.some.inj h
        exact hE H locs _ ls hw dX5_field_46
      · replace h := stF c6 h
        refine lv_iload_n hx hb dX5_field_36 rfl (lv_at hl 1 rfl) ?_
        refine lv_iconst (v := 1) hx hb dX5_field_37 (by decide) ?_
        refine lv_isub hx hb dX5_field_38 ?_
        refine lv_iload_n hx hb dX5_field_39 rfl (lv_at hl 2 rfl) ?_
        obtain ⟨g7, h⟩ := stD h
        refine lv_irem hx hb dX5_field_40 g7 ?_
        refine lv_if_eq (tgt := 47) hx hb dX5_field_41 (by decide) (fun c8 => ?_) (fun c8 => ?_)
        · replace h := stT c8 h
          refine lv_aload_n hx hb dX5_field_47 rfl (lv_at hl 0 rfl) ?_
          refine gf_5_62 F hw dX5_field_48 ?_
          refine lv_istore_n (lv' := [(3, .int yp), (0, .ref (q 0)), (1, .int v1), (2, .int v2)]) hx hb dX5_field_51 rfl hl (by decide) rfl (fun ls hl => ?_)
          refine lv_aload_n hx hb dX5_field_52 rfl (lv_at hl 1 rfl) ?_
          refine lv_iload_n hx hb dX5_field_53 rfl (lv_at hl 2 rfl) ?_
          refine lv_iload_n hx hb dX5_field_54 rfl (lv_at hl 3 rfl) ?_
          obtain ⟨z9, hz9, h⟩ := stB h
          refine ctV (av := [.int v1, .int v2]) (st0 := ([] : List Value)) (st1 := ([] : List Value)) F hw hA (k_X5_begins hz9) kl_5_58 kd_X5_begins rfl ⟨by decide, by decide⟩ 0 rfl rfl hl.1 rfl (Nat.le_of_ble_eq_true rfl) dX5_field_55 rfl (fun H locs hw => ?_)
          refine lv_iload_n hx hb dX5_field_58 rfl (lv_at hl 0 rfl) ?_
          obtain rfl := Option.some.inj h
          exact hE H locs _ ls hw dX5_field_59
        · replace h := stF c8 h
          refine lv_bipush (v := -3) hx hb dX5_field_44 (by decide) ?_
          obtain rfl := Option.some.inj h
          exact hE H locs _ ls hw dX5_field_46
    · replace h := stT c4 h
      refine lv_bipush (v := -2) hx hb dX5_field_21 (by decide) ?_
      obtain rfl := Option.some.inj h
      exact hE H locs _ ls hw dX5_field_23
end
theorem dX5_generators_0 : decode cX5_generators 0 = .ok (.iconst 0, 1) := by decide +kernel
theorem dX5_generators_1 : decode cX5_generators 1 = .ok (.istore_n 1, 1) := by decide +kernel
theorem dX5_generators_2 : decode cX5_generators 2 = .ok (.iconst 1, 1) := by decide +kernel
theorem dX5_generators_3 : decode cX5_generators 3 = .ok (.istore_n 2, 1) := by decide +kernel
theorem dX5_generators_4 : decode cX5_generators 4 = .ok (.iload_n 2, 1) := by decide +kernel
theorem dX5_generators_5 : decode cX5_generators 5 = .ok (.aload_n 0, 1) := by decide +kernel
theorem dX5_generators_6 : decode cX5_generators 6 = .ok (.getfield 62, 3) := by decide +kernel
theorem dX5_generators_9 : decode cX5_generators 9 = .ok (.if_icmp .ge 20, 3) := by decide +kernel
theorem dX5_generators_12 : decode cX5_generators 12 = .ok (.iload_n 1, 1) := by decide +kernel
theorem dX5_generators_13 : decode cX5_generators 13 = .ok (.aload_n 0, 1) := by decide +kernel
theorem dX5_generators_14 : decode cX5_generators 14 = .ok (.iload_n 2, 1) := by decide +kernel
theorem dX5_generators_15 : decode cX5_generators 15 = .ok (.invokevirtual 72, 3) := by decide +kernel
theorem dX5_generators_18 : decode cX5_generators 18 = .ok (.invokestatic 103, 3) := by decide +kernel
theorem dX5_generators_21 : decode cX5_generators 21 = .ok (.iadd, 1) := by decide +kernel
theorem dX5_generators_22 : decode cX5_generators 22 = .ok (.istore_n 1, 1) := by decide +kernel
theorem dX5_generators_23 : decode cX5_generators 23 = .ok (.iinc 2 1, 3) := by decide +kernel
theorem dX5_generators_26 : decode cX5_generators 26 = .ok (.goto (-22), 3) := by decide +kernel
theorem dX5_generators_29 : decode cX5_generators 29 = .ok (.iload_n 1, 1) := by decide +kernel
theorem dX5_generators_30 : decode cX5_generators 30 = .ok (.ireturn, 1) := by decide +kernel
section
variable {p : Program} {l : Launch} {e : Env} {s : State} {m : MethodId} {args : Array Value} {below : List Frame} {meth : Method} {c : Code} {Q : State → Prop} {G : GG} {A : Nat → Prop} {q : Nat → Nat} {fr : va_W}
def f_X5_generators_L4 (yp : Int32) : Nat → Int32 → Int32 → Option (Int32)
  | 0, _, _ => none
  | fu + 1, v1, v2 =>
    if yp ≤ v2 then
    some v1
    else
    (f_X5_isGenerator yp v2).bind fun z2 =>
    (f_X5_bit z2).bind fun z3 =>
    f_X5_generators_L4 yp fu (v1 + z3) (v2 + 1)
set_option maxHeartbeats 4000000 in
set_option maxRecDepth 100000 in
theorem w_X5_generators_L4  {yp : Int32} {ye : Int32} {yg : Int32} {bPo : Nat → Int32} {bTb : Nat → Int32} {wSh : Nat → Int64} {wTe : Nat → Int64} {wNx : Nat → Int64} {bOs : Nat → Int32} {bOn : Nat → Int32} {yop : Int32} {bSo : Nat → Int32} {bNu : Nat → Int32} {ytr : Int32} {yiw : Int32} {wMa : Nat → Int64} {wPr : Nat → Int64} {bTp : Nat → Int32} {yln : Int32} {ypl : Int32} {yfa : Int32} {wLi : Nat → Int64} {bSi : Nat → Int32} {yhp : Int32} {yhe : Int32} {yhg : Int32} {wHs : Nat → Int64} {yhi : Int32}   (F : Fx p s m args meth c cX5_generators 3 RX5 (some .int)) (hA : ∀ q, s.heap.size ≤ q → A q)   : ∀ (fu : Nat) (v1 : Int32) (v2 : Int32) (z : Int32), f_X5_generators_L4 yp fu v1 v2 = some z → Ends p l e (rmOf 1 23) s m args below meth c Q cX5_generators G A (some .int) (some (.int z)) (mW G q yp ye yg bPo bTb wSh wTe wNx bOs bOn yop bSo bNu ytr yiw wMa wPr bTp yln ypl yfa wLi bSi yhp yhe yhg wHs yhi ++ fr) → ∀ (H : Heap) (locs : List Loc) (ls : Array Slot), Wd G s A (mW G q yp ye yg bPo bTb wSh wTe wNx bOs bOn yop bSo bNu ytr yiw wMa wPr bTp yln ypl yfa wLi bSi yhp yhe yhg wHs yhi ++ fr) H locs → lv_has ls 3 [(0, .ref (q 0)), (1, .int v1), (2, .int v2)] → W p l e (rmOf 1 23) s m args below meth c H locs 0 0 Q (F0 m 4 ls []) := by
  have hx := F.x
  have hb := F.b
  intro fu
  induction fu with
  | zero =>
    intro v1 v2 z h
    cases (h : none = some z)
  | succ fu ih =>
    intro v1 v2 z h hE H locs ls hw hl
    rw [f_X5_generators_L4] at h
    refine lv_iload_n hx hb dX5_generators_4 rfl (lv_at hl 2 rfl) ?_
    refine lv_aload_n hx hb dX5_generators_5 rfl (lv_at hl 0 rfl) ?_
    refine gf_5_62 F hw dX5_generators_6 ?_
    refine lv_icmp_ge (tgt := 29) hx hb dX5_generators_9 (by decide) (fun c1 => ?_) (fun c1 => ?_)
    · replace h := stT c1 h
      refine lv_iload_n hx hb dX5_generators_29 rfl (lv_at hl 1 rfl) ?_
      obtain rfl := Option.some.inj h
      exact hE H locs _ ls hw dX5_generators_30
    · replace h := stF c1 h
      refine lv_iload_n hx hb dX5_generators_12 rfl (lv_at hl 1 rfl) ?_
      refine lv_aload_n hx hb dX5_generators_13 rfl (lv_at hl 0 rfl) ?_
      refine lv_iload_n hx hb dX5_generators_14 rfl (lv_at hl 2 rfl) ?_
      obtain ⟨z2, hz2, h⟩ := stB h
      refine ctV (av := [.int v2]) (st0 := ([.int v1] : List Value)) (st1 := ([.int z2, .int v1] : List Value)) F hw hA (k_X5_isGenerator hz2) kl_5_72 kd_X5_isGenerator rfl ⟨by decide, by decide⟩ 0 rfl rfl hl.1 rfl (Nat.le_of_ble_eq_true rfl) dX5_generators_15 rfl (fun H locs hw => ?_)
      obtain ⟨z3, hz3, h⟩ := stB h
      refine ctS (av := [.int z2]) (st0 := ([.int v1] : List Value)) (st1 := ([.int z3, .int v1] : List Value)) F hw hA (k_X5_bit hz3) kl_5_103 kd_X5_bit rfl ⟨by decide, by decide⟩ hl.1 rfl (Nat.le_of_ble_eq_true rfl) dX5_generators_18 rfl (fun H locs hw => ?_)
      refine lv_iadd hx hb dX5_generators_21 ?_
      refine lv_istore_n (lv' := [(1, .int (v1 + z3)), (0, .ref (q 0)), (2, .int v2)]) hx hb dX5_generators_22 rfl hl (by decide) rfl (fun ls hl => ?_)
      refine lv_iinc (v := (v2 + 1)) (lv' := [(2, .int (v2 + 1)), (1, .int (v1 + z3)), (0, .ref (q 0))]) hx hb dX5_generators_23 hl (k := 2) rfl rfl (by decide) rfl (fun ls hl => ?_)
      refine lv_goto (tgt := 4) hx hb dX5_generators_26 (by decide) ?_
      exact ih _ _ z h hE H locs ls hw (lv_sub hl [2, 1, 0] rfl)
def f_X5_generators (yp : Int32) : Option (Int32) :=
  f_X5_generators_L4 yp FU 0 1
set_option maxHeartbeats 4000000 in
set_option maxRecDepth 100000 in
theorem k_X5_generators {l : Launch} {G : GG} {q : Nat → Nat} {fr : va_W}  {yp : Int32} {ye : Int32} {yg : Int32} {bPo : Nat → Int32} {bTb : Nat → Int32} {wSh : Nat → Int64} {wTe : Nat → Int64} {wNx : Nat → Int64} {bOs : Nat → Int32} {bOn : Nat → Int32} {yop : Int32} {bSo : Nat → Int32} {bNu : Nat → Int32} {ytr : Int32} {yiw : Int32} {wMa : Nat → Int64} {wPr : Nat → Int64} {bTp : Nat → Int32} {yln : Int32} {ypl : Int32} {yfa : Int32} {wLi : Nat → Int64} {bSi : Nat → Int32} {yhp : Int32} {yhe : Int32} {yhg : Int32} {wHs : Nat → Int64} {yhi : Int32}  {z : Int32}  (h : f_X5_generators yp = some z) : Ct l G yX5_generators cX5_generators 3 (some .int) 1 23 [.ref (q 0)] (mW G q yp ye yg bPo bTb wSh wTe wNx bOs bOn yop bSo bNu ytr yiw wMa wPr bTp yln ypl yfa wLi bSi yhp yhe yhg wHs yhi ++ fr) (some (.int z)) (mW G q yp ye yg bPo bTb wSh wTe wNx bOs bOn yop bSo bNu ytr yiw wMa wPr bTp yln ypl yfa wLi bSi yhp yhe yhg wHs yhi ++ fr) := by
  refine Ct.of (by decide +kernel) (Nat.le_of_ble_eq_true rfl) trivial ?_
  intro p e s m args below meth c Q A ls F hw hA hE hl
  have hx := F.x
  have hb := F.b
  unfold f_X5_generators at h
  obtain ⟨H, hH⟩ : ∃ H, H = s.heap := ⟨_, rfl⟩
  obtain ⟨locs, hlo⟩ : ∃ locs : List Loc, locs = [] := ⟨_, rfl⟩
  rw [← hH, ← hlo] at hw ⊢
  have hl : lv_has ls 3 [(0, .ref (q 0))] := hl
  refine lv_iconst (v := 0) hx hb dX5_generators_0 (by decide) ?_
  refine lv_istore_n (lv' := [(1, .int 0), (0, .ref (q 0))]) hx hb dX5_generators_1 rfl hl (by decide) rfl (fun ls hl => ?_)
  refine lv_iconst (v := 1) hx hb dX5_generators_2 (by decide) ?_
  refine lv_istore_n (lv' := [(2, .int 1), (1, .int 0), (0, .ref (q 0))]) hx hb dX5_generators_3 rfl hl (by decide) rfl (fun ls hl => ?_)
  exact w_X5_generators_L4 F hA  FU _ _ z h hE H locs ls hw (lv_sub hl [2, 1, 0] rfl)
end
theorem dX5_told_0 : decode cX5_told 0 = .ok (.iload_n 1, 1) := by decide +kernel
theorem dX5_told_1 : decode cX5_told 1 = .ok (.tableswitch 67 0 4 #[35, 40, 45, 57, 62], 35) := by decide +kernel
theorem dX5_told_36 : decode cX5_told 36 = .ok (.aload_n 0, 1) := by decide +kernel
theorem dX5_told_37 : decode cX5_told 37 = .ok (.getfield 62, 3) := by decide +kernel
theorem dX5_told_40 : decode cX5_told 40 = .ok (.ireturn, 1) := by decide +kernel
theorem dX5_told_41 : decode cX5_told 41 = .ok (.aload_n 0, 1) := by decide +kernel
theorem dX5_told_42 : decode cX5_told 42 = .ok (.getfield 66, 3) := by decide +kernel
theorem dX5_told_45 : decode cX5_told 45 = .ok (.ireturn, 1) := by decide +kernel
theorem dX5_told_46 : decode cX5_told 46 = .ok (.aload_n 0, 1) := by decide +kernel
theorem dX5_told_47 : decode cX5_told 47 = .ok (.getfield 62, 3) := by decide +kernel
theorem dX5_told_50 : decode cX5_told 50 = .ok (.iconst 1, 1) := by decide +kernel
theorem dX5_told_51 : decode cX5_told 51 = .ok (.isub, 1) := by decide +kernel
theorem dX5_told_52 : decode cX5_told 52 = .ok (.aload_n 0, 1) := by decide +kernel
theorem dX5_told_53 : decode cX5_told 53 = .ok (.getfield 66, 3) := by decide +kernel
theorem dX5_told_56 : decode cX5_told 56 = .ok (.idiv, 1) := by decide +kernel
theorem dX5_told_57 : decode cX5_told 57 = .ok (.ireturn, 1) := by decide +kernel
theorem dX5_told_58 : decode cX5_told 58 = .ok (.aload_n 0, 1) := by decide +kernel
theorem dX5_told_59 : decode cX5_told 59 = .ok (.getfield 69, 3) := by decide +kernel
theorem dX5_told_62 : decode cX5_told 62 = .ok (.ireturn, 1) := by decide +kernel
theorem dX5_told_63 : decode cX5_told 63 = .ok (.aload_n 0, 1) := by decide +kernel
theorem dX5_told_64 : decode cX5_told 64 = .ok (.invokevirtual 107, 3) := by decide +kernel
theorem dX5_told_67 : decode cX5_told 67 = .ok (.ireturn, 1) := by decide +kernel
theorem dX5_told_68 : decode cX5_told 68 = .ok (.iconst (-1), 1) := by decide +kernel
theorem dX5_told_69 : decode cX5_told 69 = .ok (.ireturn, 1) := by decide +kernel
section
variable {p : Program} {l : Launch} {e : Env} {s : State} {m : MethodId} {args : Array Value} {below : List Frame} {meth : Method} {c : Code} {Q : State → Prop} {G : GG} {A : Nat → Prop} {q : Nat → Nat} {fr : va_W}
def f_X5_told (yp : Int32) (ye : Int32) (yg : Int32) (v1 : Int32) : Option (Int32) :=
  if v1 = 0 then
  some yp
  else
  if v1 = 1 then
  some ye
  else
  if v1 = 2 then
  if ye = 0 then none else
  some ((yp - 1) / ye)
  else
  if v1 = 3 then
  some yg
  else
  if v1 = 4 then
  (f_X5_generators yp).bind fun z7 =>
  some z7
  else
  some (-1)
set_option maxHeartbeats 4000000 in
set_option maxRecDepth 100000 in
theorem k_X5_told {l : Launch} {G : GG} {q : Nat → Nat} {fr : va_W}  {yp : Int32} {ye : Int32} {yg : Int32} {bPo : Nat → Int32} {bTb : Nat → Int32} {wSh : Nat → Int64} {wTe : Nat → Int64} {wNx : Nat → Int64} {bOs : Nat → Int32} {bOn : Nat → Int32} {yop : Int32} {bSo : Nat → Int32} {bNu : Nat → Int32} {ytr : Int32} {yiw : Int32} {wMa : Nat → Int64} {wPr : Nat → Int64} {bTp : Nat → Int32} {yln : Int32} {ypl : Int32} {yfa : Int32} {wLi : Nat → Int64} {bSi : Nat → Int32} {yhp : Int32} {yhe : Int32} {yhg : Int32} {wHs : Nat → Int64} {yhi : Int32} {v1 : Int32} {z : Int32}  (h : f_X5_told yp ye yg v1 = some z) : Ct l G yX5_told cX5_told 2 (some .int) 2 45 [.ref (q 0), .int v1] (mW G q yp ye yg bPo bTb wSh wTe wNx bOs bOn yop bSo bNu ytr yiw wMa wPr bTp yln ypl yfa wLi bSi yhp yhe yhg wHs yhi ++ fr) (some (.int z)) (mW G q yp ye yg bPo bTb wSh wTe wNx bOs bOn yop bSo bNu ytr yiw wMa wPr bTp yln ypl yfa wLi bSi yhp yhe yhg wHs yhi ++ fr) := by
  refine Ct.of (by decide +kernel) (Nat.le_of_ble_eq_true rfl) trivial ?_
  intro p e s m args below meth c Q A ls F hw hA hE hl
  have hx := F.x
  have hb := F.b
  unfold f_X5_told at h
  obtain ⟨H, hH⟩ : ∃ H, H = s.heap := ⟨_, rfl⟩
  obtain ⟨locs, hlo⟩ : ∃ locs : List Loc, locs = [] := ⟨_, rfl⟩
  rw [← hH, ← hlo] at hw ⊢
  have hl : lv_has ls 2 [(0, .ref (q 0)), (1, .int v1)] := hl
  refine lv_iload_n hx hb dX5_told_0 rfl (lv_at hl 1 rfl) ?_
  by_cases c1 : v1 = 0
  · replace h := stT c1 h
    refine lv_tableIn (off := 35) (tgt := 36) hx hb dX5_told_1 (by rw [c1]; decide) (by rw [c1]; decide) (by rw [c1]; rfl) (by decide) ?_
    refine lv_aload_n hx hb dX5_told_36 rfl (lv_at hl 0 rfl) ?_
    refine gf_5_62 F hw dX5_told_37 ?_
    obtain rfl := Option.some.inj h
    exact hE H locs _ ls hw dX5_told_40
  replace h := stF c1 h
  by_cases c2 : v1 = 1
  · replace h := stT c2 h
    refine lv_tableIn (off := 40) (tgt := 41) hx hb dX5_told_1 (by rw [c2]; decide) (by rw [c2]; decide) (by rw [c2]; rfl) (by decide) ?_
    refine lv_aload_n hx hb dX5_told_41 rfl (lv_at hl 0 rfl) ?_
    refine gf_5_66 F hw dX5_told_42 ?_
    obtain rfl := Option.some.inj h
    exact hE H locs _ ls hw dX5_told_45
  replace h := stF c2 h
  by_cases c3 : v1 = 2
  · replace h := stT c3 h
    refine lv_tableIn (off := 45) (tgt := 46) hx hb dX5_told_1 (by rw [c3]; decide) (by rw [c3]; decide) (by rw [c3]; rfl) (by decide) ?_
    refine lv_aload_n hx hb dX5_told_46 rfl (lv_at hl 0 rfl) ?_
    refine gf_5_62 F hw dX5_told_47 ?_
    refine lv_iconst (v := 1) hx hb dX5_told_50 (by decide) ?_
    refine lv_isub hx hb dX5_told_51 ?_
    refine lv_aload_n hx hb dX5_told_52 rfl (lv_at hl 0 rfl) ?_
    refine gf_5_66 F hw dX5_told_53 ?_
    obtain ⟨g4, h⟩ := stD h
    refine lv_idiv hx hb dX5_told_56 g4 ?_
    obtain rfl := Option.some.inj h
    exact hE H locs _ ls hw dX5_told_57
  replace h := stF c3 h
  by_cases c5 : v1 = 3
  · replace h := stT c5 h
    refine lv_tableIn (off := 57) (tgt := 58) hx hb dX5_told_1 (by rw [c5]; decide) (by rw [c5]; decide) (by rw [c5]; rfl) (by decide) ?_
    refine lv_aload_n hx hb dX5_told_58 rfl (lv_at hl 0 rfl) ?_
    refine gf_5_69 F hw dX5_told_59 ?_
    obtain rfl := Option.some.inj h
    exact hE H locs _ ls hw dX5_told_62
  replace h := stF c5 h
  by_cases c6 : v1 = 4
  · replace h := stT c6 h
    refine lv_tableIn (off := 62) (tgt := 63) hx hb dX5_told_1 (by rw [c6]; decide) (by rw [c6]; decide) (by rw [c6]; rfl) (by decide) ?_
    refine lv_aload_n hx hb dX5_told_63 rfl (lv_at hl 0 rfl) ?_
    obtain ⟨z7, hz7, h⟩ := stB h
    refine ctV (av := []) (st0 := ([] : List Value)) (st1 := ([.int z7] : List Value)) F hw hA (k_X5_generators hz7) kl_5_107 kd_X5_generators rfl ⟨by decide, by decide⟩ 0 rfl rfl hl.1 rfl (Nat.le_of_ble_eq_true rfl) dX5_told_64 rfl (fun H locs hw => ?_)
    obtain rfl := Option.some.inj h
    exact hE H locs _ ls hw dX5_told_67
  replace h := stF c6 h
  refine lv_tableOut (tgt := 68) hx hb dX5_told_1 (tsw5 c1 c2 c3 c5 c6) (by decide) ?_
  refine lv_iconst (v := -1) hx hb dX5_told_68 (by decide) ?_
  obtain rfl := Option.some.inj h
  exact hE H locs _ ls hw dX5_told_69
end
theorem dX5_generator_0 : decode cX5_generator 0 = .ok (.iconst 0, 1) := by decide +kernel
theorem dX5_generator_1 : decode cX5_generator 1 = .ok (.istore_n 2, 1) := by decide +kernel
theorem dX5_generator_2 : decode cX5_generator 2 = .ok (.iconst 1, 1) := by decide +kernel
theorem dX5_generator_3 : decode cX5_generator 3 = .ok (.istore_n 3, 1) := by decide +kernel
theorem dX5_generator_4 : decode cX5_generator 4 = .ok (.iload_n 3, 1) := by decide +kernel
theorem dX5_generator_5 : decode cX5_generator 5 = .ok (.aload_n 0, 1) := by decide +kernel
theorem dX5_generator_6 : decode cX5_generator 6 = .ok (.getfield 62, 3) := by decide +kernel
theorem dX5_generator_9 : decode cX5_generator 9 = .ok (.if_icmp .ge 27, 3) := by decide +kernel
theorem dX5_generator_12 : decode cX5_generator 12 = .ok (.aload_n 0, 1) := by decide +kernel
theorem dX5_generator_13 : decode cX5_generator 13 = .ok (.iload_n 3, 1) := by decide +kernel
theorem dX5_generator_14 : decode cX5_generator 14 = .ok (.invokevirtual 72, 3) := by decide +kernel
theorem dX5_generator_17 : decode cX5_generator 17 = .ok (.ifCond .eq 13, 3) := by decide +kernel
theorem dX5_generator_20 : decode cX5_generator 20 = .ok (.iload_n 2, 1) := by decide +kernel
theorem dX5_generator_21 : decode cX5_generator 21 = .ok (.iload_n 1, 1) := by decide +kernel
theorem dX5_generator_22 : decode cX5_generator 22 = .ok (.if_icmp .ne 5, 3) := by decide +kernel
theorem dX5_generator_25 : decode cX5_generator 25 = .ok (.iload_n 3, 1) := by decide +kernel
theorem dX5_generator_26 : decode cX5_generator 26 = .ok (.ireturn, 1) := by decide +kernel
theorem dX5_generator_27 : decode cX5_generator 27 = .ok (.iinc 2 1, 3) := by decide +kernel
theorem dX5_generator_30 : decode cX5_generator 30 = .ok (.iinc 3 1, 3) := by decide +kernel
theorem dX5_generator_33 : decode cX5_generator 33 = .ok (.goto (-29), 3) := by decide +kernel
theorem dX5_generator_36 : decode cX5_generator 36 = .ok (.iconst (-1), 1) := by decide +kernel
theorem dX5_generator_37 : decode cX5_generator 37 = .ok (.ireturn, 1) := by decide +kernel
section
variable {p : Program} {l : Launch} {e : Env} {s : State} {m : MethodId} {args : Array Value} {below : List Frame} {meth : Method} {c : Code} {Q : State → Prop} {G : GG} {A : Nat → Prop} {q : Nat → Nat} {fr : va_W}
def f_X5_generator_L4 (yp : Int32) (v1 : Int32) : Nat → Int32 → Int32 → Option (Int32)
  | 0, _, _ => none
  | fu + 1, v2, v3 =>
    if yp ≤ v3 then
    some (-1)
    else
    (f_X5_isGenerator yp v3).bind fun z2 =>
    if z2 = 0 then
    f_X5_generator_L4 yp v1 fu v2 (v3 + 1)
    else
    if v2 = v1 then
    some v3
    else
    f_X5_generator_L4 yp v1 fu (v2 + 1) (v3 + 1)
set_option maxHeartbeats 4000000 in
set_option maxRecDepth 100000 in
theorem w_X5_generator_L4  {yp : Int32} {ye : Int32} {yg : Int32} {bPo : Nat → Int32} {bTb : Nat → Int32} {wSh : Nat → Int64} {wTe : Nat → Int64} {wNx : Nat → Int64} {bOs : Nat → Int32} {bOn : Nat → Int32} {yop : Int32} {bSo : Nat → Int32} {bNu : Nat → Int32} {ytr : Int32} {yiw : Int32} {wMa : Nat → Int64} {wPr : Nat → Int64} {bTp : Nat → Int32} {yln : Int32} {ypl : Int32} {yfa : Int32} {wLi : Nat → Int64} {bSi : Nat → Int32} {yhp : Int32} {yhe : Int32} {yhg : Int32} {wHs : Nat → Int64} {yhi : Int32} {v1 : Int32}  (F : Fx p s m args meth c cX5_generator 4 RX5 (some .int)) (hA : ∀ q, s.heap.size ≤ q → A q)   : ∀ (fu : Nat) (v2 : Int32) (v3 : Int32) (z : Int32), f_X5_generator_L4 yp v1 fu v2 v3 = some z → Ends p l e (rmOf 1 23) s m args below meth c Q cX5_generator G A (some .int) (some (.int z)) (mW G q yp ye yg bPo bTb wSh wTe wNx bOs bOn yop bSo bNu ytr yiw wMa wPr bTp yln ypl yfa wLi bSi yhp yhe yhg wHs yhi ++ fr) → ∀ (H : Heap) (locs : List Loc) (ls : Array Slot), Wd G s A (mW G q yp ye yg bPo bTb wSh wTe wNx bOs bOn yop bSo bNu ytr yiw wMa wPr bTp yln ypl yfa wLi bSi yhp yhe yhg wHs yhi ++ fr) H locs → lv_has ls 4 [(0, .ref (q 0)), (1, .int v1), (2, .int v2), (3, .int v3)] → W p l e (rmOf 1 23) s m args below meth c H locs 0 0 Q (F0 m 4 ls []) := by
  have hx := F.x
  have hb := F.b
  intro fu
  induction fu with
  | zero =>
    intro v2 v3 z h
    cases (h : none = some z)
  | succ fu ih =>
    intro v2 v3 z h hE H locs ls hw hl
    rw [f_X5_generator_L4] at h
    refine lv_iload_n hx hb dX5_generator_4 rfl (lv_at hl 3 rfl) ?_
    refine lv_aload_n hx hb dX5_generator_5 rfl (lv_at hl 0 rfl) ?_
    refine gf_5_62 F hw dX5_generator_6 ?_
    refine lv_icmp_ge (tgt := 36) hx hb dX5_generator_9 (by decide) (fun c1 => ?_) (fun c1 => ?_)
    · replace h := stT c1 h
      refine lv_iconst (v := -1) hx hb dX5_generator_36 (by decide) ?_
      obtain rfl := Option.some.inj h
      exact hE H locs _ ls hw dX5_generator_37
    · replace h := stF c1 h
      refine lv_aload_n hx hb dX5_generator_12 rfl (lv_at hl 0 rfl) ?_
      refine lv_iload_n hx hb dX5_generator_13 rfl (lv_at hl 3 rfl) ?_
      obtain ⟨z2, hz2, h⟩ := stB h
      refine ctV (av := [.int v3]) (st0 := ([] : List Value)) (st1 := ([.int z2] : List Value)) F hw hA (k_X5_isGenerator hz2) kl_5_72 kd_X5_isGenerator rfl ⟨by decide, by decide⟩ 0 rfl rfl hl.1 rfl (Nat.le_of_ble_eq_true rfl) dX5_generator_14 rfl (fun H locs hw => ?_)
      refine lv_if_eq (tgt := 30) hx hb dX5_generator_17 (by decide) (fun c3 => ?_) (fun c3 => ?_)
      · replace h := stT c3 h
        refine lv_iinc (v := (v3 + 1)) (lv' := [(3, .int (v3 + 1)), (0, .ref (q 0)), (1, .int v1), (2, .int v2)]) hx hb dX5_generator_30 hl (k := 3) rfl rfl (by decide) rfl (fun ls hl => ?_)
        refine lv_goto (tgt := 4) hx hb dX5_generator_33 (by decide) ?_
        exact ih _ _ z h hE H locs ls hw (lv_sub hl [1, 2, 3, 0] rfl)
      · replace h := stF c3 h
        refine lv_iload_n hx hb dX5_generator_20 rfl (lv_at hl 2 rfl) ?_
        refine lv_iload_n hx hb dX5_generator_21 rfl (lv_at hl 1 rfl) ?_
        refine lv_icmp_ne (tgt := 27) hx hb dX5_generator_22 (by decide) (fun c4 => ?_) (fun c4 => ?_)
        · replace h := stF c4 h
          refine lv_iinc (v := (v2 + 1)) (lv' := [(2, .int (v2 + 1)), (0, .ref (q 0)), (1, .int v1), (3, .int v3)]) hx hb dX5_generator_27 hl (k := 2) rfl rfl (by decide) rfl (fun ls hl => ?_)
          refine lv_iinc (v := (v3 + 1)) (lv' := [(3, .int (v3 + 1)), (2, .int (v2 + 1)), (0, .ref (q 0)), (1, .int v1)]) hx hb dX5_generator_30 hl (k := 3) rfl rfl (by decide) rfl (fun ls hl => ?_)
          refine lv_goto (tgt := 4) hx hb dX5_generator_33 (by decide) ?_
          exact ih _ _ z h hE H locs ls hw (lv_sub hl [2, 3, 1, 0] rfl)
        · replace h := stT c4 h
          refine lv_iload_n hx hb dX5_generator_25 rfl (lv_at hl 3 rfl) ?_
          obtain rfl := Option.some.inj h
          exact hE H locs _ ls hw dX5_generator_26
def f_X5_generator (yp : Int32) (v1 : Int32) : Option (Int32) :=
  f_X5_generator_L4 yp v1 FU 0 1
set_option maxHeartbeats 4000000 in
set_option maxRecDepth 100000 in
theorem k_X5_generator {l : Launch} {G : GG} {q : Nat → Nat} {fr : va_W}  {yp : Int32} {ye : Int32} {yg : Int32} {bPo : Nat → Int32} {bTb : Nat → Int32} {wSh : Nat → Int64} {wTe : Nat → Int64} {wNx : Nat → Int64} {bOs : Nat → Int32} {bOn : Nat → Int32} {yop : Int32} {bSo : Nat → Int32} {bNu : Nat → Int32} {ytr : Int32} {yiw : Int32} {wMa : Nat → Int64} {wPr : Nat → Int64} {bTp : Nat → Int32} {yln : Int32} {ypl : Int32} {yfa : Int32} {wLi : Nat → Int64} {bSi : Nat → Int32} {yhp : Int32} {yhe : Int32} {yhg : Int32} {wHs : Nat → Int64} {yhi : Int32} {v1 : Int32} {z : Int32}  (h : f_X5_generator yp v1 = some z) : Ct l G yX5_generator cX5_generator 4 (some .int) 1 23 [.ref (q 0), .int v1] (mW G q yp ye yg bPo bTb wSh wTe wNx bOs bOn yop bSo bNu ytr yiw wMa wPr bTp yln ypl yfa wLi bSi yhp yhe yhg wHs yhi ++ fr) (some (.int z)) (mW G q yp ye yg bPo bTb wSh wTe wNx bOs bOn yop bSo bNu ytr yiw wMa wPr bTp yln ypl yfa wLi bSi yhp yhe yhg wHs yhi ++ fr) := by
  refine Ct.of (by decide +kernel) (Nat.le_of_ble_eq_true rfl) trivial ?_
  intro p e s m args below meth c Q A ls F hw hA hE hl
  have hx := F.x
  have hb := F.b
  unfold f_X5_generator at h
  obtain ⟨H, hH⟩ : ∃ H, H = s.heap := ⟨_, rfl⟩
  obtain ⟨locs, hlo⟩ : ∃ locs : List Loc, locs = [] := ⟨_, rfl⟩
  rw [← hH, ← hlo] at hw ⊢
  have hl : lv_has ls 4 [(0, .ref (q 0)), (1, .int v1)] := hl
  refine lv_iconst (v := 0) hx hb dX5_generator_0 (by decide) ?_
  refine lv_istore_n (lv' := [(2, .int 0), (0, .ref (q 0)), (1, .int v1)]) hx hb dX5_generator_1 rfl hl (by decide) rfl (fun ls hl => ?_)
  refine lv_iconst (v := 1) hx hb dX5_generator_2 (by decide) ?_
  refine lv_istore_n (lv' := [(3, .int 1), (2, .int 0), (0, .ref (q 0)), (1, .int v1)]) hx hb dX5_generator_3 rfl hl (by decide) rfl (fun ls hl => ?_)
  exact w_X5_generator_L4 F hA  FU _ _ z h hE H locs ls hw (lv_sub hl [2, 3, 1, 0] rfl)
end
theorem dX5_use_0 : decode cX5_use 0 = .ok (.aload_n 0, 1) := by decide +kernel
theorem dX5_use_1 : decode cX5_use 1 = .ok (.iload_n 1, 1) := by decide +kernel
theorem dX5_use_2 : decode cX5_use 2 = .ok (.invokevirtual 111, 3) := by decide +kernel
theorem dX5_use_5 : decode cX5_use 5 = .ok (.ifCond .eq 11, 3) := by decide +kernel
theorem dX5_use_8 : decode cX5_use 8 = .ok (.aload_n 0, 1) := by decide +kernel
theorem dX5_use_9 : decode cX5_use 9 = .ok (.iload_n 1, 1) := by decide +kernel
theorem dX5_use_10 : decode cX5_use 10 = .ok (.invokevirtual 72, 3) := by decide +kernel
theorem dX5_use_13 : decode cX5_use 13 = .ok (.ifCond .ne 6, 3) := by decide +kernel
theorem dX5_use_16 : decode cX5_use 16 = .ok (.bipush (-2), 2) := by decide +kernel
theorem dX5_use_18 : decode cX5_use 18 = .ok (.ireturn, 1) := by decide +kernel
theorem dX5_use_19 : decode cX5_use 19 = .ok (.aload_n 0, 1) := by decide +kernel
theorem dX5_use_20 : decode cX5_use 20 = .ok (.getfield 69, 3) := by decide +kernel
theorem dX5_use_23 : decode cX5_use 23 = .ok (.istore_n 2, 1) := by decide +kernel
theorem dX5_use_24 : decode cX5_use 24 = .ok (.aload_n 0, 1) := by decide +kernel
theorem dX5_use_25 : decode cX5_use 25 = .ok (.iload_n 1, 1) := by decide +kernel
theorem dX5_use_26 : decode cX5_use 26 = .ok (.putfield 69, 3) := by decide +kernel
theorem dX5_use_29 : decode cX5_use 29 = .ok (.aload_n 0, 1) := by decide +kernel
theorem dX5_use_30 : decode cX5_use 30 = .ok (.invokevirtual 76, 3) := by decide +kernel
theorem dX5_use_33 : decode cX5_use 33 = .ok (.iload_n 2, 1) := by decide +kernel
theorem dX5_use_34 : decode cX5_use 34 = .ok (.ireturn, 1) := by decide +kernel
section
variable {p : Program} {l : Launch} {e : Env} {s : State} {m : MethodId} {args : Array Value} {below : List Frame} {meth : Method} {c : Code} {Q : State → Prop} {G : GG} {A : Nat → Prop} {q : Nat → Nat} {fr : va_W}
def f_X5_use (yp : Int32) (ye : Int32) (yg : Int32) (bPo : Nat → Int32) (bTb : Nat → Int32) (v1 : Int32) : Option (Int32 × Int32 × (Nat → Int32) × (Nat → Int32)) :=
  (f_X5_isNumber yp v1).bind fun z1 =>
  if z1 = 0 then
  some ((-2), yg, bPo, bTb)
  else
  (f_X5_isGenerator yp v1).bind fun z3 =>
  if z3 = 0 then
  some ((-2), yg, bPo, bTb)
  else
  (f_X5_findsClasses yp ye v1 bPo bTb).bind fun z5 =>
  some (yg, v1, z5.1, z5.2)
set_option maxHeartbeats 4000000 in
set_option maxRecDepth 100000 in
theorem k_X5_use {l : Launch} {G : GG} {q : Nat → Nat} {fr : va_W}  {yp : Int32} {ye : Int32} {yg : Int32} {bPo : Nat → Int32} {bTb : Nat → Int32} {wSh : Nat → Int64} {wTe : Nat → Int64} {wNx : Nat → Int64} {bOs : Nat → Int32} {bOn : Nat → Int32} {yop : Int32} {bSo : Nat → Int32} {bNu : Nat → Int32} {ytr : Int32} {yiw : Int32} {wMa : Nat → Int64} {wPr : Nat → Int64} {bTp : Nat → Int32} {yln : Int32} {ypl : Int32} {yfa : Int32} {wLi : Nat → Int64} {bSi : Nat → Int32} {yhp : Int32} {yhe : Int32} {yhg : Int32} {wHs : Nat → Int64} {yhi : Int32} {v1 : Int32} {z : Int32 × Int32 × (Nat → Int32) × (Nat → Int32)}  (h : f_X5_use yp ye yg bPo bTb v1 = some z) : Ct l G yX5_use cX5_use 3 (some .int) 3 68 [.ref (q 0), .int v1] (mW G q yp ye yg bPo bTb wSh wTe wNx bOs bOn yop bSo bNu ytr yiw wMa wPr bTp yln ypl yfa wLi bSi yhp yhe yhg wHs yhi ++ fr) (some (.int z.1)) (mW G q yp ye z.2.1 z.2.2.1 z.2.2.2 wSh wTe wNx bOs bOn yop bSo bNu ytr yiw wMa wPr bTp yln ypl yfa wLi bSi yhp yhe yhg wHs yhi ++ fr) := by
  refine Ct.of (by decide +kernel) (Nat.le_of_ble_eq_true rfl) trivial ?_
  intro p e s m args below meth c Q A ls F hw hA hE hl
  have hx := F.x
  have hb := F.b
  unfold f_X5_use at h
  obtain ⟨H, hH⟩ : ∃ H, H = s.heap := ⟨_, rfl⟩
  obtain ⟨locs, hlo⟩ : ∃ locs : List Loc, locs = [] := ⟨_, rfl⟩
  rw [← hH, ← hlo] at hw ⊢
  have hl : lv_has ls 3 [(0, .ref (q 0)), (1, .int v1)] := hl
  refine lv_aload_n hx hb dX5_use_0 rfl (lv_at hl 0 rfl) ?_
  refine lv_iload_n hx hb dX5_use_1 rfl (lv_at hl 1 rfl) ?_
  obtain ⟨z1, hz1, h⟩ := stB h
  refine ctV (av := [.int v1]) (st0 := ([] : List Value)) (st1 := ([.int z1] : List Value)) F hw hA (k_X5_isNumber hz1) kl_5_111 kd_X5_isNumber rfl ⟨by decide, by decide⟩ 0 rfl rfl hl.1 rfl (Nat.le_of_ble_eq_true rfl) dX5_use_2 rfl (fun H locs hw => ?_)
  refine lv_if_eq (tgt := 16) hx hb dX5_use_5 (by decide) (fun c2 => ?_) (fun c2 => ?_)
  · replace h := stT c2 h
    refine lv_bipush (v := -2) hx hb dX5_use_16 (by decide) ?_
    obtain rfl := Option.some.inj h
    exact hE H locs _ ls hw dX5_use_18
  · replace h := stF c2 h
    refine lv_aload_n hx hb dX5_use_8 rfl (lv_at hl 0 rfl) ?_
    refine lv_iload_n hx hb dX5_use_9 rfl (lv_at hl 1 rfl) ?_
    obtain ⟨z3, hz3, h⟩ := stB h
    refine ctV (av := [.int v1]) (st0 := ([] : List Value)) (st1 := ([.int z3] : List Value)) F hw hA (k_X5_isGenerator hz3) kl_5_72 kd_X5_isGenerator rfl ⟨by decide, by decide⟩ 0 rfl rfl hl.1 rfl (Nat.le_of_ble_eq_true rfl) dX5_use_10 rfl (fun H locs hw => ?_)
    refine lv_if_ne (tgt := 19) hx hb dX5_use_13 (by decide) (fun c4 => ?_) (fun c4 => ?_)
    · replace h := stF c4 h
      refine lv_aload_n hx hb dX5_use_19 rfl (lv_at hl 0 rfl) ?_
      refine gf_5_69 F hw dX5_use_20 ?_
      refine lv_istore_n (lv' := [(2, .int yg), (0, .ref (q 0)), (1, .int v1)]) hx hb dX5_use_23 rfl hl (by decide) rfl (fun ls hl => ?_)
      refine lv_aload_n hx hb dX5_use_24 rfl (lv_at hl 1 rfl) ?_
      refine lv_iload_n hx hb dX5_use_25 rfl (lv_at hl 2 rfl) ?_
      refine pf_5_69 F hw dX5_use_26 (fun H locs hw => ?_)
      refine lv_aload_n hx hb dX5_use_29 rfl (lv_at hl 1 rfl) ?_
      obtain ⟨z5, hz5, h⟩ := stB h
      refine ctV (av := []) (st0 := ([] : List Value)) (st1 := ([] : List Value)) F hw hA (k_X5_findsClasses hz5) kl_5_76 kd_X5_findsClasses rfl ⟨by decide, by decide⟩ 0 rfl rfl hl.1 rfl (Nat.le_of_ble_eq_true rfl) dX5_use_30 rfl (fun H locs hw => ?_)
      refine lv_iload_n hx hb dX5_use_33 rfl (lv_at hl 0 rfl) ?_
      obtain rfl := Option.some.inj h
      exact hE H locs _ ls hw dX5_use_34
    · replace h := stT c4 h
      refine lv_bipush (v := -2) hx hb dX5_use_16 (by decide) ?_
      obtain rfl := Option.some.inj h
      exact hE H locs _ ls hw dX5_use_18
end
theorem dX5_power_0 : decode cX5_power 0 = .ok (.aload_n 0, 1) := by decide +kernel
theorem dX5_power_1 : decode cX5_power 1 = .ok (.iload_n 1, 1) := by decide +kernel
theorem dX5_power_2 : decode cX5_power 2 = .ok (.invokevirtual 111, 3) := by decide +kernel
theorem dX5_power_5 : decode cX5_power 5 = .ok (.ifCond .eq 12, 3) := by decide +kernel
theorem dX5_power_8 : decode cX5_power 8 = .ok (.aload_n 0, 1) := by decide +kernel
theorem dX5_power_9 : decode cX5_power 9 = .ok (.getfield 11, 3) := by decide +kernel
theorem dX5_power_12 : decode cX5_power 12 = .ok (.iload_n 1, 1) := by decide +kernel
theorem dX5_power_13 : decode cX5_power 13 = .ok (.iaload, 1) := by decide +kernel
theorem dX5_power_14 : decode cX5_power 14 = .ok (.goto 4, 3) := by decide +kernel
theorem dX5_power_17 : decode cX5_power 17 = .ok (.iconst (-1), 1) := by decide +kernel
theorem dX5_power_18 : decode cX5_power 18 = .ok (.ireturn, 1) := by decide +kernel
section
variable {p : Program} {l : Launch} {e : Env} {s : State} {m : MethodId} {args : Array Value} {below : List Frame} {meth : Method} {c : Code} {Q : State → Prop} {G : GG} {A : Nat → Prop} {q : Nat → Nat} {fr : va_W}
def f_X5_power (yp : Int32) (bPo : Nat → Int32) (v1 : Int32) : Option (Int32) :=
  (f_X5_isNumber yp v1).bind fun z1 =>
  if z1 = 0 then
  some (-1)
  else
  if inb v1 62 then
  some (bPo v1.toNatClampNeg)
  else none
set_option maxHeartbeats 4000000 in
set_option maxRecDepth 100000 in
theorem k_X5_power {l : Launch} {G : GG} {q : Nat → Nat} {fr : va_W}  {yp : Int32} {ye : Int32} {yg : Int32} {bPo : Nat → Int32} {bTb : Nat → Int32} {wSh : Nat → Int64} {wTe : Nat → Int64} {wNx : Nat → Int64} {bOs : Nat → Int32} {bOn : Nat → Int32} {yop : Int32} {bSo : Nat → Int32} {bNu : Nat → Int32} {ytr : Int32} {yiw : Int32} {wMa : Nat → Int64} {wPr : Nat → Int64} {bTp : Nat → Int32} {yln : Int32} {ypl : Int32} {yfa : Int32} {wLi : Nat → Int64} {bSi : Nat → Int32} {yhp : Int32} {yhe : Int32} {yhg : Int32} {wHs : Nat → Int64} {yhi : Int32} {v1 : Int32} {z : Int32}  (h : f_X5_power yp bPo v1 = some z) : Ct l G yX5_power cX5_power 2 (some .int) 2 46 [.ref (q 0), .int v1] (mW G q yp ye yg bPo bTb wSh wTe wNx bOs bOn yop bSo bNu ytr yiw wMa wPr bTp yln ypl yfa wLi bSi yhp yhe yhg wHs yhi ++ fr) (some (.int z)) (mW G q yp ye yg bPo bTb wSh wTe wNx bOs bOn yop bSo bNu ytr yiw wMa wPr bTp yln ypl yfa wLi bSi yhp yhe yhg wHs yhi ++ fr) := by
  refine Ct.of (by decide +kernel) (Nat.le_of_ble_eq_true rfl) trivial ?_
  intro p e s m args below meth c Q A ls F hw hA hE hl
  have hx := F.x
  have hb := F.b
  unfold f_X5_power at h
  obtain ⟨H, hH⟩ : ∃ H, H = s.heap := ⟨_, rfl⟩
  obtain ⟨locs, hlo⟩ : ∃ locs : List Loc, locs = [] := ⟨_, rfl⟩
  rw [← hH, ← hlo] at hw ⊢
  have hl : lv_has ls 2 [(0, .ref (q 0)), (1, .int v1)] := hl
  refine lv_aload_n hx hb dX5_power_0 rfl (lv_at hl 0 rfl) ?_
  refine lv_iload_n hx hb dX5_power_1 rfl (lv_at hl 1 rfl) ?_
  obtain ⟨z1, hz1, h⟩ := stB h
  refine ctV (av := [.int v1]) (st0 := ([] : List Value)) (st1 := ([.int z1] : List Value)) F hw hA (k_X5_isNumber hz1) kl_5_111 kd_X5_isNumber rfl ⟨by decide, by decide⟩ 0 rfl rfl hl.1 rfl (Nat.le_of_ble_eq_true rfl) dX5_power_2 rfl (fun H locs hw => ?_)
  refine lv_if_eq (tgt := 17) hx hb dX5_power_5 (by decide) (fun c2 => ?_) (fun c2 => ?_)
  · replace h := stT c2 h
    refine lv_iconst (v := -1) hx hb dX5_power_17 (by decide) ?_
    obtain rfl := Option.some.inj h
    exact hE H locs _ ls hw dX5_power_18
  · replace h := stF c2 h
    refine lv_aload_n hx hb dX5_power_8 rfl (lv_at hl 0 rfl) ?_
    refine gf_5_11 F hw dX5_power_9 ?_
    refine lv_iload_n hx hb dX5_power_12 rfl (lv_at hl 1 rfl) ?_
    obtain ⟨g3, h⟩ := stG h
    refine al_m1 F hw g3 dX5_power_13 ?_
    refine lv_goto (tgt := 18) hx hb dX5_power_14 (by decide) ?_
    obtain rfl := Option.some.inj h
    exact hE H locs _ ls hw dX5_power_18
end
theorem dX5_classOf_0 : decode cX5_classOf 0 = .ok (.aload_n 0, 1) := by decide +kernel
theorem dX5_classOf_1 : decode cX5_classOf 1 = .ok (.iload_n 1, 1) := by decide +kernel
theorem dX5_classOf_2 : decode cX5_classOf 2 = .ok (.invokevirtual 111, 3) := by decide +kernel
theorem dX5_classOf_5 : decode cX5_classOf 5 = .ok (.ifCond .eq 11, 3) := by decide +kernel
theorem dX5_classOf_8 : decode cX5_classOf 8 = .ok (.aload_n 0, 1) := by decide +kernel
theorem dX5_classOf_9 : decode cX5_classOf 9 = .ok (.iload_n 1, 1) := by decide +kernel
theorem dX5_classOf_10 : decode cX5_classOf 10 = .ok (.invokevirtual 83, 3) := by decide +kernel
theorem dX5_classOf_13 : decode cX5_classOf 13 = .ok (.goto 4, 3) := by decide +kernel
theorem dX5_classOf_16 : decode cX5_classOf 16 = .ok (.iconst (-1), 1) := by decide +kernel
theorem dX5_classOf_17 : decode cX5_classOf 17 = .ok (.ireturn, 1) := by decide +kernel
section
variable {p : Program} {l : Launch} {e : Env} {s : State} {m : MethodId} {args : Array Value} {below : List Frame} {meth : Method} {c : Code} {Q : State → Prop} {G : GG} {A : Nat → Prop} {q : Nat → Nat} {fr : va_W}
def f_X5_classOf (yp : Int32) (ye : Int32) (bPo : Nat → Int32) (v1 : Int32) : Option (Int32) :=
  (f_X5_isNumber yp v1).bind fun z1 =>
  if z1 = 0 then
  some (-1)
  else
  (f_X5_classAt ye bPo v1).bind fun z3 =>
  some z3
set_option maxHeartbeats 4000000 in
set_option maxRecDepth 100000 in
theorem k_X5_classOf {l : Launch} {G : GG} {q : Nat → Nat} {fr : va_W}  {yp : Int32} {ye : Int32} {yg : Int32} {bPo : Nat → Int32} {bTb : Nat → Int32} {wSh : Nat → Int64} {wTe : Nat → Int64} {wNx : Nat → Int64} {bOs : Nat → Int32} {bOn : Nat → Int32} {yop : Int32} {bSo : Nat → Int32} {bNu : Nat → Int32} {ytr : Int32} {yiw : Int32} {wMa : Nat → Int64} {wPr : Nat → Int64} {bTp : Nat → Int32} {yln : Int32} {ypl : Int32} {yfa : Int32} {wLi : Nat → Int64} {bSi : Nat → Int32} {yhp : Int32} {yhe : Int32} {yhg : Int32} {wHs : Nat → Int64} {yhi : Int32} {v1 : Int32} {z : Int32}  (h : f_X5_classOf yp ye bPo v1 = some z) : Ct l G yX5_classOf cX5_classOf 2 (some .int) 2 46 [.ref (q 0), .int v1] (mW G q yp ye yg bPo bTb wSh wTe wNx bOs bOn yop bSo bNu ytr yiw wMa wPr bTp yln ypl yfa wLi bSi yhp yhe yhg wHs yhi ++ fr) (some (.int z)) (mW G q yp ye yg bPo bTb wSh wTe wNx bOs bOn yop bSo bNu ytr yiw wMa wPr bTp yln ypl yfa wLi bSi yhp yhe yhg wHs yhi ++ fr) := by
  refine Ct.of (by decide +kernel) (Nat.le_of_ble_eq_true rfl) trivial ?_
  intro p e s m args below meth c Q A ls F hw hA hE hl
  have hx := F.x
  have hb := F.b
  unfold f_X5_classOf at h
  obtain ⟨H, hH⟩ : ∃ H, H = s.heap := ⟨_, rfl⟩
  obtain ⟨locs, hlo⟩ : ∃ locs : List Loc, locs = [] := ⟨_, rfl⟩
  rw [← hH, ← hlo] at hw ⊢
  have hl : lv_has ls 2 [(0, .ref (q 0)), (1, .int v1)] := hl
  refine lv_aload_n hx hb dX5_classOf_0 rfl (lv_at hl 0 rfl) ?_
  refine lv_iload_n hx hb dX5_classOf_1 rfl (lv_at hl 1 rfl) ?_
  obtain ⟨z1, hz1, h⟩ := stB h
  refine ctV (av := [.int v1]) (st0 := ([] : List Value)) (st1 := ([.int z1] : List Value)) F hw hA (k_X5_isNumber hz1) kl_5_111 kd_X5_isNumber rfl ⟨by decide, by decide⟩ 0 rfl rfl hl.1 rfl (Nat.le_of_ble_eq_true rfl) dX5_classOf_2 rfl (fun H locs hw => ?_)
  refine lv_if_eq (tgt := 16) hx hb dX5_classOf_5 (by decide) (fun c2 => ?_) (fun c2 => ?_)
  · replace h := stT c2 h
    refine lv_iconst (v := -1) hx hb dX5_classOf_16 (by decide) ?_
    obtain rfl := Option.some.inj h
    exact hE H locs _ ls hw dX5_classOf_17
  · replace h := stF c2 h
    refine lv_aload_n hx hb dX5_classOf_8 rfl (lv_at hl 0 rfl) ?_
    refine lv_iload_n hx hb dX5_classOf_9 rfl (lv_at hl 1 rfl) ?_
    obtain ⟨z3, hz3, h⟩ := stB h
    refine ctV (av := [.int v1]) (st0 := ([] : List Value)) (st1 := ([.int z3] : List Value)) F hw hA (k_X5_classAt hz3) kl_5_83 kd_X5_classAt rfl ⟨by decide, by decide⟩ 0 rfl rfl hl.1 rfl (Nat.le_of_ble_eq_true rfl) dX5_classOf_10 rfl (fun H locs hw => ?_)
    refine lv_goto (tgt := 17) hx hb dX5_classOf_13 (by decide) ?_
    obtain rfl := Option.some.inj h
    exact hE H locs _ ls hw dX5_classOf_17
end
theorem dX5_member_0 : decode cX5_member 0 = .ok (.aload_n 0, 1) := by decide +kernel
theorem dX5_member_1 : decode cX5_member 1 = .ok (.iload_n 1, 1) := by decide +kernel
theorem dX5_member_2 : decode cX5_member 2 = .ok (.invokevirtual 114, 3) := by decide +kernel
theorem dX5_member_5 : decode cX5_member 5 = .ok (.ifCond .ne 5, 3) := by decide +kernel
theorem dX5_member_8 : decode cX5_member 8 = .ok (.iconst (-1), 1) := by decide +kernel
theorem dX5_member_9 : decode cX5_member 9 = .ok (.ireturn, 1) := by decide +kernel
theorem dX5_member_10 : decode cX5_member 10 = .ok (.iconst 0, 1) := by decide +kernel
theorem dX5_member_11 : decode cX5_member 11 = .ok (.istore_n 3, 1) := by decide +kernel
theorem dX5_member_12 : decode cX5_member 12 = .ok (.iconst 1, 1) := by decide +kernel
theorem dX5_member_13 : decode cX5_member 13 = .ok (.istore 4, 2) := by decide +kernel
theorem dX5_member_15 : decode cX5_member 15 = .ok (.iload 4, 2) := by decide +kernel
theorem dX5_member_17 : decode cX5_member 17 = .ok (.aload_n 0, 1) := by decide +kernel
theorem dX5_member_18 : decode cX5_member 18 = .ok (.getfield 62, 3) := by decide +kernel
theorem dX5_member_21 : decode cX5_member 21 = .ok (.if_icmp .ge 30, 3) := by decide +kernel
theorem dX5_member_24 : decode cX5_member 24 = .ok (.aload_n 0, 1) := by decide +kernel
theorem dX5_member_25 : decode cX5_member 25 = .ok (.iload 4, 2) := by decide +kernel
theorem dX5_member_27 : decode cX5_member 27 = .ok (.invokevirtual 83, 3) := by decide +kernel
theorem dX5_member_30 : decode cX5_member 30 = .ok (.iload_n 1, 1) := by decide +kernel
theorem dX5_member_31 : decode cX5_member 31 = .ok (.if_icmp .ne 14, 3) := by decide +kernel
theorem dX5_member_34 : decode cX5_member 34 = .ok (.iload_n 3, 1) := by decide +kernel
theorem dX5_member_35 : decode cX5_member 35 = .ok (.iload_n 2, 1) := by decide +kernel
theorem dX5_member_36 : decode cX5_member 36 = .ok (.if_icmp .ne 6, 3) := by decide +kernel
theorem dX5_member_39 : decode cX5_member 39 = .ok (.iload 4, 2) := by decide +kernel
theorem dX5_member_41 : decode cX5_member 41 = .ok (.ireturn, 1) := by decide +kernel
theorem dX5_member_42 : decode cX5_member 42 = .ok (.iinc 3 1, 3) := by decide +kernel
theorem dX5_member_45 : decode cX5_member 45 = .ok (.iinc 4 1, 3) := by decide +kernel
theorem dX5_member_48 : decode cX5_member 48 = .ok (.goto (-33), 3) := by decide +kernel
theorem dX5_member_51 : decode cX5_member 51 = .ok (.iconst (-1), 1) := by decide +kernel
theorem dX5_member_52 : decode cX5_member 52 = .ok (.ireturn, 1) := by decide +kernel
section
variable {p : Program} {l : Launch} {e : Env} {s : State} {m : MethodId} {args : Array Value} {below : List Frame} {meth : Method} {c : Code} {Q : State → Prop} {G : GG} {A : Nat → Prop} {q : Nat → Nat} {fr : va_W}
def f_X5_member_L15 (yp : Int32) (ye : Int32) (bPo : Nat → Int32) (v1 : Int32) (v2 : Int32) : Nat → Int32 → Int32 → Option (Int32)
  | 0, _, _ => none
  | fu + 1, v3, v4 =>
    if yp ≤ v4 then
    some (-1)
    else
    (f_X5_classAt ye bPo v4).bind fun z2 =>
    if z2 = v1 then
    if v3 = v2 then
    some v4
    else
    f_X5_member_L15 yp ye bPo v1 v2 fu (v3 + 1) (v4 + 1)
    else
    f_X5_member_L15 yp ye bPo v1 v2 fu v3 (v4 + 1)
set_option maxHeartbeats 4000000 in
set_option maxRecDepth 100000 in
theorem w_X5_member_L15  {yp : Int32} {ye : Int32} {yg : Int32} {bPo : Nat → Int32} {bTb : Nat → Int32} {wSh : Nat → Int64} {wTe : Nat → Int64} {wNx : Nat → Int64} {bOs : Nat → Int32} {bOn : Nat → Int32} {yop : Int32} {bSo : Nat → Int32} {bNu : Nat → Int32} {ytr : Int32} {yiw : Int32} {wMa : Nat → Int64} {wPr : Nat → Int64} {bTp : Nat → Int32} {yln : Int32} {ypl : Int32} {yfa : Int32} {wLi : Nat → Int64} {bSi : Nat → Int32} {yhp : Int32} {yhe : Int32} {yhg : Int32} {wHs : Nat → Int64} {yhi : Int32} {v1 : Int32} {v2 : Int32}  (F : Fx p s m args meth c cX5_member 5 RX5 (some .int)) (hA : ∀ q, s.heap.size ≤ q → A q)   : ∀ (fu : Nat) (v3 : Int32) (v4 : Int32) (z : Int32), f_X5_member_L15 yp ye bPo v1 v2 fu v3 v4 = some z → Ends p l e (rmOf 2 46) s m args below meth c Q cX5_member G A (some .int) (some (.int z)) (mW G q yp ye yg bPo bTb wSh wTe wNx bOs bOn yop bSo bNu ytr yiw wMa wPr bTp yln ypl yfa wLi bSi yhp yhe yhg wHs yhi ++ fr) → ∀ (H : Heap) (locs : List Loc) (ls : Array Slot), Wd G s A (mW G q yp ye yg bPo bTb wSh wTe wNx bOs bOn yop bSo bNu ytr yiw wMa wPr bTp yln ypl yfa wLi bSi yhp yhe yhg wHs yhi ++ fr) H locs → lv_has ls 5 [(0, .ref (q 0)), (1, .int v1), (2, .int v2), (3, .int v3), (4, .int v4)] → W p l e (rmOf 2 46) s m args below meth c H locs 0 0 Q (F0 m 15 ls []) := by
  have hx := F.x
  have hb := F.b
  intro fu
  induction fu with
  | zero =>
    intro v3 v4 z h
    cases (h : none = some z)
  | succ fu ih =>
    intro v3 v4 z h hE H locs ls hw hl
    rw [f_X5_member_L15] at h
    refine lv_iload hx hb dX5_member_15 (lv_at hl 4 rfl) ?_
    refine lv_aload_n hx hb dX5_member_17 rfl (lv_at hl 0 rfl) ?_
    refine gf_5_62 F hw dX5_member_18 ?_
    refine lv_icmp_ge (tgt := 51) hx hb dX5_member_21 (by decide) (fun c1 => ?_) (fun c1 => ?_)
    · replace h := stT c1 h
      refine lv_iconst (v := -1) hx hb dX5_member_51 (by decide) ?_
      obtain rfl := Option.some.inj h
      exact hE H locs _ ls hw dX5_member_52
    · replace h := stF c1 h
      refine lv_aload_n hx hb dX5_member_24 rfl (lv_at hl 0 rfl) ?_
      refine lv_iload hx hb dX5_member_25 (lv_at hl 4 rfl) ?_
      obtain ⟨z2, hz2, h⟩ := stB h
      refine ctV (av := [.int v4]) (st0 := ([] : List Value)) (st1 := ([.int z2] : List Value)) F hw hA (k_X5_classAt hz2) kl_5_83 kd_X5_classAt rfl ⟨by decide, by decide⟩ 0 rfl rfl hl.1 rfl (Nat.le_of_ble_eq_true rfl) dX5_member_27 rfl (fun H locs hw => ?_)
      refine lv_iload_n hx hb dX5_member_30 rfl (lv_at hl 1 rfl) ?_
      refine lv_icmp_ne (tgt := 45) hx hb dX5_member_31 (by decide) (fun c3 => ?_) (fun c3 => ?_)
      · replace h := stF c3 h
        refine lv_iinc (v := (v4 + 1)) (lv' := [(4, .int (v4 + 1)), (0, .ref (q 0)), (1, .int v1), (2, .int v2), (3, .int v3)]) hx hb dX5_member_45 hl (k := 4) rfl rfl (by decide) rfl (fun ls hl => ?_)
        refine lv_goto (tgt := 15) hx hb dX5_member_48 (by decide) ?_
        exact ih _ _ z h hE H locs ls hw (lv_sub hl [1, 2, 3, 4, 0] rfl)
      · replace h := stT c3 h
        refine lv_iload_n hx hb dX5_member_34 rfl (lv_at hl 3 rfl) ?_
        refine lv_iload_n hx hb dX5_member_35 rfl (lv_at hl 2 rfl) ?_
        refine lv_icmp_ne (tgt := 42) hx hb dX5_member_36 (by decide) (fun c4 => ?_) (fun c4 => ?_)
        · replace h := stF c4 h
          refine lv_iinc (v := (v3 + 1)) (lv' := [(3, .int (v3 + 1)), (0, .ref (q 0)), (1, .int v1), (2, .int v2), (4, .int v4)]) hx hb dX5_member_42 hl (k := 3) rfl rfl (by decide) rfl (fun ls hl => ?_)
          refine lv_iinc (v := (v4 + 1)) (lv' := [(4, .int (v4 + 1)), (3, .int (v3 + 1)), (0, .ref (q 0)), (1, .int v1), (2, .int v2)]) hx hb dX5_member_45 hl (k := 4) rfl rfl (by decide) rfl (fun ls hl => ?_)
          refine lv_goto (tgt := 15) hx hb dX5_member_48 (by decide) ?_
          exact ih _ _ z h hE H locs ls hw (lv_sub hl [2, 3, 4, 1, 0] rfl)
        · replace h := stT c4 h
          refine lv_iload hx hb dX5_member_39 (lv_at hl 4 rfl) ?_
          obtain rfl := Option.some.inj h
          exact hE H locs _ ls hw dX5_member_41
def f_X5_member (yp : Int32) (ye : Int32) (bPo : Nat → Int32) (v1 : Int32) (v2 : Int32) : Option (Int32) :=
  (f_X5_isClass ye v1).bind fun z1 =>
  if z1 = 0 then
  some (-1)
  else
  f_X5_member_L15 yp ye bPo v1 v2 FU 0 1
set_option maxHeartbeats 4000000 in
set_option maxRecDepth 100000 in
theorem k_X5_member {l : Launch} {G : GG} {q : Nat → Nat} {fr : va_W}  {yp : Int32} {ye : Int32} {yg : Int32} {bPo : Nat → Int32} {bTb : Nat → Int32} {wSh : Nat → Int64} {wTe : Nat → Int64} {wNx : Nat → Int64} {bOs : Nat → Int32} {bOn : Nat → Int32} {yop : Int32} {bSo : Nat → Int32} {bNu : Nat → Int32} {ytr : Int32} {yiw : Int32} {wMa : Nat → Int64} {wPr : Nat → Int64} {bTp : Nat → Int32} {yln : Int32} {ypl : Int32} {yfa : Int32} {wLi : Nat → Int64} {bSi : Nat → Int32} {yhp : Int32} {yhe : Int32} {yhg : Int32} {wHs : Nat → Int64} {yhi : Int32} {v1 : Int32} {v2 : Int32} {z : Int32}  (h : f_X5_member yp ye bPo v1 v2 = some z) : Ct l G yX5_member cX5_member 5 (some .int) 2 46 [.ref (q 0), .int v1, .int v2] (mW G q yp ye yg bPo bTb wSh wTe wNx bOs bOn yop bSo bNu ytr yiw wMa wPr bTp yln ypl yfa wLi bSi yhp yhe yhg wHs yhi ++ fr) (some (.int z)) (mW G q yp ye yg bPo bTb wSh wTe wNx bOs bOn yop bSo bNu ytr yiw wMa wPr bTp yln ypl yfa wLi bSi yhp yhe yhg wHs yhi ++ fr) := by
  refine Ct.of (by decide +kernel) (Nat.le_of_ble_eq_true rfl) trivial ?_
  intro p e s m args below meth c Q A ls F hw hA hE hl
  have hx := F.x
  have hb := F.b
  unfold f_X5_member at h
  obtain ⟨H, hH⟩ : ∃ H, H = s.heap := ⟨_, rfl⟩
  obtain ⟨locs, hlo⟩ : ∃ locs : List Loc, locs = [] := ⟨_, rfl⟩
  rw [← hH, ← hlo] at hw ⊢
  have hl : lv_has ls 5 [(0, .ref (q 0)), (1, .int v1), (2, .int v2)] := hl
  refine lv_aload_n hx hb dX5_member_0 rfl (lv_at hl 0 rfl) ?_
  refine lv_iload_n hx hb dX5_member_1 rfl (lv_at hl 1 rfl) ?_
  obtain ⟨z1, hz1, h⟩ := stB h
  refine ctV (av := [.int v1]) (st0 := ([] : List Value)) (st1 := ([.int z1] : List Value)) F hw hA (k_X5_isClass hz1) kl_5_114 kd_X5_isClass rfl ⟨by decide, by decide⟩ 0 rfl rfl hl.1 rfl (Nat.le_of_ble_eq_true rfl) dX5_member_2 rfl (fun H locs hw => ?_)
  refine lv_if_ne (tgt := 10) hx hb dX5_member_5 (by decide) (fun c2 => ?_) (fun c2 => ?_)
  · replace h := stF c2 h
    refine lv_iconst (v := 0) hx hb dX5_member_10 (by decide) ?_
    refine lv_istore_n (lv' := [(3, .int 0), (0, .ref (q 0)), (1, .int v1), (2, .int v2)]) hx hb dX5_member_11 rfl hl (by decide) rfl (fun ls hl => ?_)
    refine lv_iconst (v := 1) hx hb dX5_member_12 (by decide) ?_
    refine lv_istore (lv' := [(4, .int 1), (3, .int 0), (0, .ref (q 0)), (1, .int v1), (2, .int v2)]) hx hb dX5_member_13 hl (by decide) rfl (fun ls hl => ?_)
    exact w_X5_member_L15 F hA  FU _ _ z h hE H locs ls hw (lv_sub hl [2, 3, 4, 1, 0] rfl)
  · replace h := stT c2 h
    refine lv_iconst (v := -1) hx hb dX5_member_8 (by decide) ?_
    obtain rfl := Option.some.inj h
    exact hE H locs _ ls hw dX5_member_9
end
theorem dX5_besideOf_0 : decode cX5_besideOf 0 = .ok (.iconst 0, 1) := by decide +kernel
theorem dX5_besideOf_1 : decode cX5_besideOf 1 = .ok (.istore_n 3, 1) := by decide +kernel
theorem dX5_besideOf_2 : decode cX5_besideOf 2 = .ok (.iconst 1, 1) := by decide +kernel
theorem dX5_besideOf_3 : decode cX5_besideOf 3 = .ok (.istore 4, 2) := by decide +kernel
theorem dX5_besideOf_5 : decode cX5_besideOf 5 = .ok (.iload 4, 2) := by decide +kernel
theorem dX5_besideOf_7 : decode cX5_besideOf 7 = .ok (.iconst 1, 1) := by decide +kernel
theorem dX5_besideOf_8 : decode cX5_besideOf 8 = .ok (.iadd, 1) := by decide +kernel
theorem dX5_besideOf_9 : decode cX5_besideOf 9 = .ok (.aload_n 0, 1) := by decide +kernel
theorem dX5_besideOf_10 : decode cX5_besideOf 10 = .ok (.getfield 62, 3) := by decide +kernel
theorem dX5_besideOf_13 : decode cX5_besideOf 13 = .ok (.if_icmp .ge 42, 3) := by decide +kernel
theorem dX5_besideOf_16 : decode cX5_besideOf 16 = .ok (.iload_n 3, 1) := by decide +kernel
theorem dX5_besideOf_17 : decode cX5_besideOf 17 = .ok (.aload_n 0, 1) := by decide +kernel
theorem dX5_besideOf_18 : decode cX5_besideOf 18 = .ok (.iload 4, 2) := by decide +kernel
theorem dX5_besideOf_20 : decode cX5_besideOf 20 = .ok (.invokevirtual 83, 3) := by decide +kernel
theorem dX5_besideOf_23 : decode cX5_besideOf 23 = .ok (.iload_n 1, 1) := by decide +kernel
theorem dX5_besideOf_24 : decode cX5_besideOf 24 = .ok (.if_icmp .ne 19, 3) := by decide +kernel
theorem dX5_besideOf_27 : decode cX5_besideOf 27 = .ok (.aload_n 0, 1) := by decide +kernel
theorem dX5_besideOf_28 : decode cX5_besideOf 28 = .ok (.iload 4, 2) := by decide +kernel
theorem dX5_besideOf_30 : decode cX5_besideOf 30 = .ok (.iconst 1, 1) := by decide +kernel
theorem dX5_besideOf_31 : decode cX5_besideOf 31 = .ok (.iadd, 1) := by decide +kernel
theorem dX5_besideOf_32 : decode cX5_besideOf 32 = .ok (.invokevirtual 83, 3) := by decide +kernel
theorem dX5_besideOf_35 : decode cX5_besideOf 35 = .ok (.iload_n 2, 1) := by decide +kernel
theorem dX5_besideOf_36 : decode cX5_besideOf 36 = .ok (.if_icmp .ne 7, 3) := by decide +kernel
theorem dX5_besideOf_39 : decode cX5_besideOf 39 = .ok (.iconst 1, 1) := by decide +kernel
theorem dX5_besideOf_40 : decode cX5_besideOf 40 = .ok (.goto 4, 3) := by decide +kernel
theorem dX5_besideOf_43 : decode cX5_besideOf 43 = .ok (.iconst 0, 1) := by decide +kernel
theorem dX5_besideOf_44 : decode cX5_besideOf 44 = .ok (.invokestatic 103, 3) := by decide +kernel
theorem dX5_besideOf_47 : decode cX5_besideOf 47 = .ok (.iadd, 1) := by decide +kernel
theorem dX5_besideOf_48 : decode cX5_besideOf 48 = .ok (.istore_n 3, 1) := by decide +kernel
theorem dX5_besideOf_49 : decode cX5_besideOf 49 = .ok (.iinc 4 1, 3) := by decide +kernel
theorem dX5_besideOf_52 : decode cX5_besideOf 52 = .ok (.goto (-47), 3) := by decide +kernel
theorem dX5_besideOf_55 : decode cX5_besideOf 55 = .ok (.iload_n 3, 1) := by decide +kernel
theorem dX5_besideOf_56 : decode cX5_besideOf 56 = .ok (.ireturn, 1) := by decide +kernel
section
variable {p : Program} {l : Launch} {e : Env} {s : State} {m : MethodId} {args : Array Value} {below : List Frame} {meth : Method} {c : Code} {Q : State → Prop} {G : GG} {A : Nat → Prop} {q : Nat → Nat} {fr : va_W}
def f_X5_besideOf_L5 (yp : Int32) (ye : Int32) (bPo : Nat → Int32) (v1 : Int32) (v2 : Int32) : Nat → Int32 → Int32 → Option (Int32)
  | 0, _, _ => none
  | fu + 1, v3, v4 =>
    if yp ≤ (v4 + 1) then
    some v3
    else
    (f_X5_classAt ye bPo v4).bind fun z2 =>
    if z2 = v1 then
    (f_X5_classAt ye bPo (v4 + 1)).bind fun z5 =>
    if z5 = v2 then
    (f_X5_bit 1).bind fun z8 =>
    f_X5_besideOf_L5 yp ye bPo v1 v2 fu (v3 + z8) (v4 + 1)
    else
    (f_X5_bit 0).bind fun z7 =>
    f_X5_besideOf_L5 yp ye bPo v1 v2 fu (v3 + z7) (v4 + 1)
    else
    (f_X5_bit 0).bind fun z4 =>
    f_X5_besideOf_L5 yp ye bPo v1 v2 fu (v3 + z4) (v4 + 1)
set_option maxHeartbeats 4000000 in
set_option maxRecDepth 100000 in
theorem w_X5_besideOf_L5  {yp : Int32} {ye : Int32} {yg : Int32} {bPo : Nat → Int32} {bTb : Nat → Int32} {wSh : Nat → Int64} {wTe : Nat → Int64} {wNx : Nat → Int64} {bOs : Nat → Int32} {bOn : Nat → Int32} {yop : Int32} {bSo : Nat → Int32} {bNu : Nat → Int32} {ytr : Int32} {yiw : Int32} {wMa : Nat → Int64} {wPr : Nat → Int64} {bTp : Nat → Int32} {yln : Int32} {ypl : Int32} {yfa : Int32} {wLi : Nat → Int64} {bSi : Nat → Int32} {yhp : Int32} {yhe : Int32} {yhg : Int32} {wHs : Nat → Int64} {yhi : Int32} {v1 : Int32} {v2 : Int32}  (F : Fx p s m args meth c cX5_besideOf 5 RX5 (some .int)) (hA : ∀ q, s.heap.size ≤ q → A q)   : ∀ (fu : Nat) (v3 : Int32) (v4 : Int32) (z : Int32), f_X5_besideOf_L5 yp ye bPo v1 v2 fu v3 v4 = some z → Ends p l e (rmOf 1 21) s m args below meth c Q cX5_besideOf G A (some .int) (some (.int z)) (mW G q yp ye yg bPo bTb wSh wTe wNx bOs bOn yop bSo bNu ytr yiw wMa wPr bTp yln ypl yfa wLi bSi yhp yhe yhg wHs yhi ++ fr) → ∀ (H : Heap) (locs : List Loc) (ls : Array Slot), Wd G s A (mW G q yp ye yg bPo bTb wSh wTe wNx bOs bOn yop bSo bNu ytr yiw wMa wPr bTp yln ypl yfa wLi bSi yhp yhe yhg wHs yhi ++ fr) H locs → lv_has ls 5 [(0, .ref (q 0)), (1, .int v1), (2, .int v2), (3, .int v3), (4, .int v4)] → W p l e (rmOf 1 21) s m args below meth c H locs 0 0 Q (F0 m 5 ls []) := by
  have hx := F.x
  have hb := F.b
  intro fu
  induction fu with
  | zero =>
    intro v3 v4 z h
    cases (h : none = some z)
  | succ fu ih =>
    intro v3 v4 z h hE H locs ls hw hl
    rw [f_X5_besideOf_L5] at h
    refine lv_iload hx hb dX5_besideOf_5 (lv_at hl 4 rfl) ?_
    refine lv_iconst (v := 1) hx hb dX5_besideOf_7 (by decide) ?_
    refine lv_iadd hx hb dX5_besideOf_8 ?_
    refine lv_aload_n hx hb dX5_besideOf_9 rfl (lv_at hl 0 rfl) ?_
    refine gf_5_62 F hw dX5_besideOf_10 ?_
    refine lv_icmp_ge (tgt := 55) hx hb dX5_besideOf_13 (by decide) (fun c1 => ?_) (fun c1 => ?_)
    · replace h := stT c1 h
      refine lv_iload_n hx hb dX5_besideOf_55 rfl (lv_at hl 3 rfl) ?_
      obtain rfl := Option.some.inj h
      exact hE H locs _ ls hw dX5_besideOf_56
    · replace h := stF c1 h
      refine lv_iload_n hx hb dX5_besideOf_16 rfl (lv_at hl 3 rfl) ?_
      refine lv_aload_n hx hb dX5_besideOf_17 rfl (lv_at hl 0 rfl) ?_
      refine lv_iload hx hb dX5_besideOf_18 (lv_at hl 4 rfl) ?_
      obtain ⟨z2, hz2, h⟩ := stB h
      refine ctV (av := [.int v4]) (st0 := ([.int v3] : List Value)) (st1 := ([.int z2, .int v3] : List Value)) F hw hA (k_X5_classAt hz2) kl_5_83 kd_X5_classAt rfl ⟨by decide, by decide⟩ 0 rfl rfl hl.1 rfl (Nat.le_of_ble_eq_true rfl) dX5_besideOf_20 rfl (fun H locs hw => ?_)
      refine lv_iload_n hx hb dX5_besideOf_23 rfl (lv_at hl 1 rfl) ?_
      refine lv_icmp_ne (tgt := 43) hx hb dX5_besideOf_24 (by decide) (fun c3 => ?_) (fun c3 => ?_)
      · replace h := stF c3 h
        refine lv_iconst (v := 0) hx hb dX5_besideOf_43 (by decide) ?_
        obtain ⟨z4, hz4, h⟩ := stB h
        refine ctS (av := [.int 0]) (st0 := ([.int v3] : List Value)) (st1 := ([.int z4, .int v3] : List Value)) F hw hA (k_X5_bit hz4) kl_5_103 kd_X5_bit rfl ⟨by decide, by decide⟩ hl.1 rfl (Nat.le_of_ble_eq_true rfl) dX5_besideOf_44 rfl (fun H locs hw => ?_)
        refine lv_iadd hx hb dX5_besideOf_47 ?_
        refine lv_istore_n (lv' := [(3, .int (v3 + z4)), (0, .ref (q 0)), (1, .int v1), (2, .int v2), (4, .int v4)]) hx hb dX5_besideOf_48 rfl hl (by decide) rfl (fun ls hl => ?_)
        refine lv_iinc (v := (v4 + 1)) (lv' := [(4, .int (v4 + 1)), (3, .int (v3 + z4)), (0, .ref (q 0)), (1, .int v1), (2, .int v2)]) hx hb dX5_besideOf_49 hl (k := 4) rfl rfl (by decide) rfl (fun ls hl => ?_)
        refine lv_goto (tgt := 5) hx hb dX5_besideOf_52 (by decide) ?_
        exact ih _ _ z h hE H locs ls hw (lv_sub hl [2, 3, 4, 1, 0] rfl)
      · replace h := stT c3 h
        refine lv_aload_n hx hb dX5_besideOf_27 rfl (lv_at hl 0 rfl) ?_
        refine lv_iload hx hb dX5_besideOf_28 (lv_at hl 4 rfl) ?_
        refine lv_iconst (v := 1) hx hb dX5_besideOf_30 (by decide) ?_
        refine lv_iadd hx hb dX5_besideOf_31 ?_
        obtain ⟨z5, hz5, h⟩ := stB h
        refine ctV (av := [.int (v4 + 1)]) (st0 := ([.int v3] : List Value)) (st1 := ([.int z5, .int v3] : List Value)) F hw hA (k_X5_classAt hz5) kl_5_83 kd_X5_classAt rfl ⟨by decide, by decide⟩ 0 rfl rfl hl.1 rfl (Nat.le_of_ble_eq_true rfl) dX5_besideOf_32 rfl (fun H locs hw => ?_)
        refine lv_iload_n hx hb dX5_besideOf_35 rfl (lv_at hl 2 rfl) ?_
        refine lv_icmp_ne (tgt := 43) hx hb dX5_besideOf_36 (by decide) (fun c6 => ?_) (fun c6 => ?_)
        · replace h := stF c6 h
          refine lv_iconst (v := 0) hx hb dX5_besideOf_43 (by decide) ?_
          obtain ⟨z7, hz7, h⟩ := stB h
          refine ctS (av := [.int 0]) (st0 := ([.int v3] : List Value)) (st1 := ([.int z7, .int v3] : List Value)) F hw hA (k_X5_bit hz7) kl_5_103 kd_X5_bit rfl ⟨by decide, by decide⟩ hl.1 rfl (Nat.le_of_ble_eq_true rfl) dX5_besideOf_44 rfl (fun H locs hw => ?_)
          refine lv_iadd hx hb dX5_besideOf_47 ?_
          refine lv_istore_n (lv' := [(3, .int (v3 + z7)), (0, .ref (q 0)), (1, .int v1), (2, .int v2), (4, .int v4)]) hx hb dX5_besideOf_48 rfl hl (by decide) rfl (fun ls hl => ?_)
          refine lv_iinc (v := (v4 + 1)) (lv' := [(4, .int (v4 + 1)), (3, .int (v3 + z7)), (0, .ref (q 0)), (1, .int v1), (2, .int v2)]) hx hb dX5_besideOf_49 hl (k := 4) rfl rfl (by decide) rfl (fun ls hl => ?_)
          refine lv_goto (tgt := 5) hx hb dX5_besideOf_52 (by decide) ?_
          exact ih _ _ z h hE H locs ls hw (lv_sub hl [2, 3, 4, 1, 0] rfl)
        · replace h := stT c6 h
          refine lv_iconst (v := 1) hx hb dX5_besideOf_39 (by decide) ?_
          refine lv_goto (tgt := 44) hx hb dX5_besideOf_40 (by decide) ?_
          obtain ⟨z8, hz8, h⟩ := stB h
          refine ctS (av := [.int 1]) (st0 := ([.int v3] : List Value)) (st1 := ([.int z8, .int v3] : List Value)) F hw hA (k_X5_bit hz8) kl_5_103 kd_X5_bit rfl ⟨by decide, by decide⟩ hl.1 rfl (Nat.le_of_ble_eq_true rfl) dX5_besideOf_44 rfl (fun H locs hw => ?_)
          refine lv_iadd hx hb dX5_besideOf_47 ?_
          refine lv_istore_n (lv' := [(3, .int (v3 + z8)), (0, .ref (q 0)), (1, .int v1), (2, .int v2), (4, .int v4)]) hx hb dX5_besideOf_48 rfl hl (by decide) rfl (fun ls hl => ?_)
          refine lv_iinc (v := (v4 + 1)) (lv' := [(4, .int (v4 + 1)), (3, .int (v3 + z8)), (0, .ref (q 0)), (1, .int v1), (2, .int v2)]) hx hb dX5_besideOf_49 hl (k := 4) rfl rfl (by decide) rfl (fun ls hl => ?_)
          refine lv_goto (tgt := 5) hx hb dX5_besideOf_52 (by decide) ?_
          exact ih _ _ z h hE H locs ls hw (lv_sub hl [2, 3, 4, 1, 0] rfl)
def f_X5_besideOf (yp : Int32) (ye : Int32) (bPo : Nat → Int32) (v1 : Int32) (v2 : Int32) : Option (Int32) :=
  f_X5_besideOf_L5 yp ye bPo v1 v2 FU 0 1
set_option maxHeartbeats 4000000 in
set_option maxRecDepth 100000 in
theorem k_X5_besideOf {l : Launch} {G : GG} {q : Nat → Nat} {fr : va_W}  {yp : Int32} {ye : Int32} {yg : Int32} {bPo : Nat → Int32} {bTb : Nat → Int32} {wSh : Nat → Int64} {wTe : Nat → Int64} {wNx : Nat → Int64} {bOs : Nat → Int32} {bOn : Nat → Int32} {yop : Int32} {bSo : Nat → Int32} {bNu : Nat → Int32} {ytr : Int32} {yiw : Int32} {wMa : Nat → Int64} {wPr : Nat → Int64} {bTp : Nat → Int32} {yln : Int32} {ypl : Int32} {yfa : Int32} {wLi : Nat → Int64} {bSi : Nat → Int32} {yhp : Int32} {yhe : Int32} {yhg : Int32} {wHs : Nat → Int64} {yhi : Int32} {v1 : Int32} {v2 : Int32} {z : Int32}  (h : f_X5_besideOf yp ye bPo v1 v2 = some z) : Ct l G yX5_besideOf cX5_besideOf 5 (some .int) 1 21 [.ref (q 0), .int v1, .int v2] (mW G q yp ye yg bPo bTb wSh wTe wNx bOs bOn yop bSo bNu ytr yiw wMa wPr bTp yln ypl yfa wLi bSi yhp yhe yhg wHs yhi ++ fr) (some (.int z)) (mW G q yp ye yg bPo bTb wSh wTe wNx bOs bOn yop bSo bNu ytr yiw wMa wPr bTp yln ypl yfa wLi bSi yhp yhe yhg wHs yhi ++ fr) := by
  refine Ct.of (by decide +kernel) (Nat.le_of_ble_eq_true rfl) trivial ?_
  intro p e s m args below meth c Q A ls F hw hA hE hl
  have hx := F.x
  have hb := F.b
  unfold f_X5_besideOf at h
  obtain ⟨H, hH⟩ : ∃ H, H = s.heap := ⟨_, rfl⟩
  obtain ⟨locs, hlo⟩ : ∃ locs : List Loc, locs = [] := ⟨_, rfl⟩
  rw [← hH, ← hlo] at hw ⊢
  have hl : lv_has ls 5 [(0, .ref (q 0)), (1, .int v1), (2, .int v2)] := hl
  refine lv_iconst (v := 0) hx hb dX5_besideOf_0 (by decide) ?_
  refine lv_istore_n (lv' := [(3, .int 0), (0, .ref (q 0)), (1, .int v1), (2, .int v2)]) hx hb dX5_besideOf_1 rfl hl (by decide) rfl (fun ls hl => ?_)
  refine lv_iconst (v := 1) hx hb dX5_besideOf_2 (by decide) ?_
  refine lv_istore (lv' := [(4, .int 1), (3, .int 0), (0, .ref (q 0)), (1, .int v1), (2, .int v2)]) hx hb dX5_besideOf_3 hl (by decide) rfl (fun ls hl => ?_)
  exact w_X5_besideOf_L5 F hA  FU _ _ z h hE H locs ls hw (lv_sub hl [2, 3, 4, 1, 0] rfl)
end
theorem dX5_beside_0 : decode cX5_beside 0 = .ok (.aload_n 0, 1) := by decide +kernel
theorem dX5_beside_1 : decode cX5_beside 1 = .ok (.iload_n 1, 1) := by decide +kernel
theorem dX5_beside_2 : decode cX5_beside 2 = .ok (.invokevirtual 114, 3) := by decide +kernel
theorem dX5_beside_5 : decode cX5_beside 5 = .ok (.ifCond .eq 20, 3) := by decide +kernel
theorem dX5_beside_8 : decode cX5_beside 8 = .ok (.aload_n 0, 1) := by decide +kernel
theorem dX5_beside_9 : decode cX5_beside 9 = .ok (.iload_n 2, 1) := by decide +kernel
theorem dX5_beside_10 : decode cX5_beside 10 = .ok (.invokevirtual 114, 3) := by decide +kernel
theorem dX5_beside_13 : decode cX5_beside 13 = .ok (.ifCond .eq 12, 3) := by decide +kernel
theorem dX5_beside_16 : decode cX5_beside 16 = .ok (.aload_n 0, 1) := by decide +kernel
theorem dX5_beside_17 : decode cX5_beside 17 = .ok (.iload_n 1, 1) := by decide +kernel
theorem dX5_beside_18 : decode cX5_beside 18 = .ok (.iload_n 2, 1) := by decide +kernel
theorem dX5_beside_19 : decode cX5_beside 19 = .ok (.invokevirtual 117, 3) := by decide +kernel
theorem dX5_beside_22 : decode cX5_beside 22 = .ok (.goto 4, 3) := by decide +kernel
theorem dX5_beside_25 : decode cX5_beside 25 = .ok (.iconst (-1), 1) := by decide +kernel
theorem dX5_beside_26 : decode cX5_beside 26 = .ok (.ireturn, 1) := by decide +kernel
section
variable {p : Program} {l : Launch} {e : Env} {s : State} {m : MethodId} {args : Array Value} {below : List Frame} {meth : Method} {c : Code} {Q : State → Prop} {G : GG} {A : Nat → Prop} {q : Nat → Nat} {fr : va_W}
def f_X5_beside (yp : Int32) (ye : Int32) (bPo : Nat → Int32) (v1 : Int32) (v2 : Int32) : Option (Int32) :=
  (f_X5_isClass ye v1).bind fun z1 =>
  if z1 = 0 then
  some (-1)
  else
  (f_X5_isClass ye v2).bind fun z3 =>
  if z3 = 0 then
  some (-1)
  else
  (f_X5_besideOf yp ye bPo v1 v2).bind fun z5 =>
  some z5
set_option maxHeartbeats 4000000 in
set_option maxRecDepth 100000 in
theorem k_X5_beside {l : Launch} {G : GG} {q : Nat → Nat} {fr : va_W}  {yp : Int32} {ye : Int32} {yg : Int32} {bPo : Nat → Int32} {bTb : Nat → Int32} {wSh : Nat → Int64} {wTe : Nat → Int64} {wNx : Nat → Int64} {bOs : Nat → Int32} {bOn : Nat → Int32} {yop : Int32} {bSo : Nat → Int32} {bNu : Nat → Int32} {ytr : Int32} {yiw : Int32} {wMa : Nat → Int64} {wPr : Nat → Int64} {bTp : Nat → Int32} {yln : Int32} {ypl : Int32} {yfa : Int32} {wLi : Nat → Int64} {bSi : Nat → Int32} {yhp : Int32} {yhe : Int32} {yhg : Int32} {wHs : Nat → Int64} {yhi : Int32} {v1 : Int32} {v2 : Int32} {z : Int32}  (h : f_X5_beside yp ye bPo v1 v2 = some z) : Ct l G yX5_beside cX5_beside 3 (some .int) 2 46 [.ref (q 0), .int v1, .int v2] (mW G q yp ye yg bPo bTb wSh wTe wNx bOs bOn yop bSo bNu ytr yiw wMa wPr bTp yln ypl yfa wLi bSi yhp yhe yhg wHs yhi ++ fr) (some (.int z)) (mW G q yp ye yg bPo bTb wSh wTe wNx bOs bOn yop bSo bNu ytr yiw wMa wPr bTp yln ypl yfa wLi bSi yhp yhe yhg wHs yhi ++ fr) := by
  refine Ct.of (by decide +kernel) (Nat.le_of_ble_eq_true rfl) trivial ?_
  intro p e s m args below meth c Q A ls F hw hA hE hl
  have hx := F.x
  have hb := F.b
  unfold f_X5_beside at h
  obtain ⟨H, hH⟩ : ∃ H, H = s.heap := ⟨_, rfl⟩
  obtain ⟨locs, hlo⟩ : ∃ locs : List Loc, locs = [] := ⟨_, rfl⟩
  rw [← hH, ← hlo] at hw ⊢
  have hl : lv_has ls 3 [(0, .ref (q 0)), (1, .int v1), (2, .int v2)] := hl
  refine lv_aload_n hx hb dX5_beside_0 rfl (lv_at hl 0 rfl) ?_
  refine lv_iload_n hx hb dX5_beside_1 rfl (lv_at hl 1 rfl) ?_
  obtain ⟨z1, hz1, h⟩ := stB h
  refine ctV (av := [.int v1]) (st0 := ([] : List Value)) (st1 := ([.int z1] : List Value)) F hw hA (k_X5_isClass hz1) kl_5_114 kd_X5_isClass rfl ⟨by decide, by decide⟩ 0 rfl rfl hl.1 rfl (Nat.le_of_ble_eq_true rfl) dX5_beside_2 rfl (fun H locs hw => ?_)
  refine lv_if_eq (tgt := 25) hx hb dX5_beside_5 (by decide) (fun c2 => ?_) (fun c2 => ?_)
  · replace h := stT c2 h
    refine lv_iconst (v := -1) hx hb dX5_beside_25 (by decide) ?_
    obtain rfl := Option.some.inj h
    exact hE H locs _ ls hw dX5_beside_26
  · replace h := stF c2 h
    refine lv_aload_n hx hb dX5_beside_8 rfl (lv_at hl 0 rfl) ?_
    refine lv_iload_n hx hb dX5_beside_9 rfl (lv_at hl 2 rfl) ?_
    obtain ⟨z3, hz3, h⟩ := stB h
    refine ctV (av := [.int v2]) (st0 := ([] : List Value)) (st1 := ([.int z3] : List Value)) F hw hA (k_X5_isClass hz3) kl_5_114 kd_X5_isClass rfl ⟨by decide, by decide⟩ 0 rfl rfl hl.1 rfl (Nat.le_of_ble_eq_true rfl) dX5_beside_10 rfl (fun H locs hw => ?_)
    refine lv_if_eq (tgt := 25) hx hb dX5_beside_13 (by decide) (fun c4 => ?_) (fun c4 => ?_)
    · replace h := stT c4 h
      refine lv_iconst (v := -1) hx hb dX5_beside_25 (by decide) ?_
      obtain rfl := Option.some.inj h
      exact hE H locs _ ls hw dX5_beside_26
    · replace h := stF c4 h
      refine lv_aload_n hx hb dX5_beside_16 rfl (lv_at hl 0 rfl) ?_
      refine lv_iload_n hx hb dX5_beside_17 rfl (lv_at hl 1 rfl) ?_
      refine lv_iload_n hx hb dX5_beside_18 rfl (lv_at hl 2 rfl) ?_
      obtain ⟨z5, hz5, h⟩ := stB h
      refine ctV (av := [.int v1, .int v2]) (st0 := ([] : List Value)) (st1 := ([.int z5] : List Value)) F hw hA (k_X5_besideOf hz5) kl_5_117 kd_X5_besideOf rfl ⟨by decide, by decide⟩ 0 rfl rfl hl.1 rfl (Nat.le_of_ble_eq_true rfl) dX5_beside_19 rfl (fun H locs hw => ?_)
      refine lv_goto (tgt := 26) hx hb dX5_beside_22 (by decide) ?_
      obtain rfl := Option.some.inj h
      exact hE H locs _ ls hw dX5_beside_26
end
theorem dX5_meets_0 : decode cX5_meets 0 = .ok (.aload_n 0, 1) := by decide +kernel
theorem dX5_meets_1 : decode cX5_meets 1 = .ok (.iload_n 1, 1) := by decide +kernel
theorem dX5_meets_2 : decode cX5_meets 2 = .ok (.invokevirtual 114, 3) := by decide +kernel
theorem dX5_meets_5 : decode cX5_meets 5 = .ok (.ifCond .eq 33, 3) := by decide +kernel
theorem dX5_meets_8 : decode cX5_meets 8 = .ok (.aload_n 0, 1) := by decide +kernel
theorem dX5_meets_9 : decode cX5_meets 9 = .ok (.iload_n 2, 1) := by decide +kernel
theorem dX5_meets_10 : decode cX5_meets 10 = .ok (.invokevirtual 114, 3) := by decide +kernel
theorem dX5_meets_13 : decode cX5_meets 13 = .ok (.ifCond .eq 25, 3) := by decide +kernel
theorem dX5_meets_16 : decode cX5_meets 16 = .ok (.aload_n 0, 1) := by decide +kernel
theorem dX5_meets_17 : decode cX5_meets 17 = .ok (.iload_n 3, 1) := by decide +kernel
theorem dX5_meets_18 : decode cX5_meets 18 = .ok (.invokevirtual 114, 3) := by decide +kernel
theorem dX5_meets_21 : decode cX5_meets 21 = .ok (.ifCond .eq 17, 3) := by decide +kernel
theorem dX5_meets_24 : decode cX5_meets 24 = .ok (.aload_n 0, 1) := by decide +kernel
theorem dX5_meets_25 : decode cX5_meets 25 = .ok (.getfield 15, 3) := by decide +kernel
theorem dX5_meets_28 : decode cX5_meets 28 = .ok (.iload_n 1, 1) := by decide +kernel
theorem dX5_meets_29 : decode cX5_meets 29 = .ok (.iload_n 2, 1) := by decide +kernel
theorem dX5_meets_30 : decode cX5_meets 30 = .ok (.iload_n 3, 1) := by decide +kernel
theorem dX5_meets_31 : decode cX5_meets 31 = .ok (.invokestatic 86, 3) := by decide +kernel
theorem dX5_meets_34 : decode cX5_meets 34 = .ok (.iaload, 1) := by decide +kernel
theorem dX5_meets_35 : decode cX5_meets 35 = .ok (.goto 4, 3) := by decide +kernel
theorem dX5_meets_38 : decode cX5_meets 38 = .ok (.iconst (-1), 1) := by decide +kernel
theorem dX5_meets_39 : decode cX5_meets 39 = .ok (.ireturn, 1) := by decide +kernel
section
variable {p : Program} {l : Launch} {e : Env} {s : State} {m : MethodId} {args : Array Value} {below : List Frame} {meth : Method} {c : Code} {Q : State → Prop} {G : GG} {A : Nat → Prop} {q : Nat → Nat} {fr : va_W}
def f_X5_meets (ye : Int32) (bTb : Nat → Int32) (v1 : Int32) (v2 : Int32) (v3 : Int32) : Option (Int32) :=
  (f_X5_isClass ye v1).bind fun z1 =>
  if z1 = 0 then
  some (-1)
  else
  (f_X5_isClass ye v2).bind fun z3 =>
  if z3 = 0 then
  some (-1)
  else
  (f_X5_isClass ye v3).bind fun z5 =>
  if z5 = 0 then
  some (-1)
  else
  (f_X5_at v1 v2 v3).bind fun z7 =>
  if inb z7 1728 then
  some (bTb z7.toNatClampNeg)
  else none
set_option maxHeartbeats 4000000 in
set_option maxRecDepth 100000 in
theorem k_X5_meets {l : Launch} {G : GG} {q : Nat → Nat} {fr : va_W}  {yp : Int32} {ye : Int32} {yg : Int32} {bPo : Nat → Int32} {bTb : Nat → Int32} {wSh : Nat → Int64} {wTe : Nat → Int64} {wNx : Nat → Int64} {bOs : Nat → Int32} {bOn : Nat → Int32} {yop : Int32} {bSo : Nat → Int32} {bNu : Nat → Int32} {ytr : Int32} {yiw : Int32} {wMa : Nat → Int64} {wPr : Nat → Int64} {bTp : Nat → Int32} {yln : Int32} {ypl : Int32} {yfa : Int32} {wLi : Nat → Int64} {bSi : Nat → Int32} {yhp : Int32} {yhe : Int32} {yhg : Int32} {wHs : Nat → Int64} {yhi : Int32} {v1 : Int32} {v2 : Int32} {v3 : Int32} {z : Int32}  (h : f_X5_meets ye bTb v1 v2 v3 = some z) : Ct l G yX5_meets cX5_meets 4 (some .int) 2 46 [.ref (q 0), .int v1, .int v2, .int v3] (mW G q yp ye yg bPo bTb wSh wTe wNx bOs bOn yop bSo bNu ytr yiw wMa wPr bTp yln ypl yfa wLi bSi yhp yhe yhg wHs yhi ++ fr) (some (.int z)) (mW G q yp ye yg bPo bTb wSh wTe wNx bOs bOn yop bSo bNu ytr yiw wMa wPr bTp yln ypl yfa wLi bSi yhp yhe yhg wHs yhi ++ fr) := by
  refine Ct.of (by decide +kernel) (Nat.le_of_ble_eq_true rfl) trivial ?_
  intro p e s m args below meth c Q A ls F hw hA hE hl
  have hx := F.x
  have hb := F.b
  unfold f_X5_meets at h
  obtain ⟨H, hH⟩ : ∃ H, H = s.heap := ⟨_, rfl⟩
  obtain ⟨locs, hlo⟩ : ∃ locs : List Loc, locs = [] := ⟨_, rfl⟩
  rw [← hH, ← hlo] at hw ⊢
  have hl : lv_has ls 4 [(0, .ref (q 0)), (1, .int v1), (2, .int v2), (3, .int v3)] := hl
  refine lv_aload_n hx hb dX5_meets_0 rfl (lv_at hl 0 rfl) ?_
  refine lv_iload_n hx hb dX5_meets_1 rfl (lv_at hl 1 rfl) ?_
  obtain ⟨z1, hz1, h⟩ := stB h
  refine ctV (av := [.int v1]) (st0 := ([] : List Value)) (st1 := ([.int z1] : List Value)) F hw hA (k_X5_isClass hz1) kl_5_114 kd_X5_isClass rfl ⟨by decide, by decide⟩ 0 rfl rfl hl.1 rfl (Nat.le_of_ble_eq_true rfl) dX5_meets_2 rfl (fun H locs hw => ?_)
  refine lv_if_eq (tgt := 38) hx hb dX5_meets_5 (by decide) (fun c2 => ?_) (fun c2 => ?_)
  · replace h := stT c2 h
    refine lv_iconst (v := -1) hx hb dX5_meets_38 (by decide) ?_
    obtain rfl := Option.some.inj h
    exact hE H locs _ ls hw dX5_meets_39
  · replace h := stF c2 h
    refine lv_aload_n hx hb dX5_meets_8 rfl (lv_at hl 0 rfl) ?_
    refine lv_iload_n hx hb dX5_meets_9 rfl (lv_at hl 2 rfl) ?_
    obtain ⟨z3, hz3, h⟩ := stB h
    refine ctV (av := [.int v2]) (st0 := ([] : List Value)) (st1 := ([.int z3] : List Value)) F hw hA (k_X5_isClass hz3) kl_5_114 kd_X5_isClass rfl ⟨by decide, by decide⟩ 0 rfl rfl hl.1 rfl (Nat.le_of_ble_eq_true rfl) dX5_meets_10 rfl (fun H locs hw => ?_)
    refine lv_if_eq (tgt := 38) hx hb dX5_meets_13 (by decide) (fun c4 => ?_) (fun c4 => ?_)
    · replace h := stT c4 h
      refine lv_iconst (v := -1) hx hb dX5_meets_38 (by decide) ?_
      obtain rfl := Option.some.inj h
      exact hE H locs _ ls hw dX5_meets_39
    · replace h := stF c4 h
      refine lv_aload_n hx hb dX5_meets_16 rfl (lv_at hl 0 rfl) ?_
      refine lv_iload_n hx hb dX5_meets_17 rfl (lv_at hl 3 rfl) ?_
      obtain ⟨z5, hz5, h⟩ := stB h
      refine ctV (av := [.int v3]) (st0 := ([] : List Value)) (st1 := ([.int z5] : List Value)) F hw hA (k_X5_isClass hz5) kl_5_114 kd_X5_isClass rfl ⟨by decide, by decide⟩ 0 rfl rfl hl.1 rfl (Nat.le_of_ble_eq_true rfl) dX5_meets_18 rfl (fun H locs hw => ?_)
      refine lv_if_eq (tgt := 38) hx hb dX5_meets_21 (by decide) (fun c6 => ?_) (fun c6 => ?_)
      · replace h := stT c6 h
        refine lv_iconst (v := -1) hx hb dX5_meets_38 (by decide) ?_
        obtain rfl := Option.some.inj h
        exact hE H locs _ ls hw dX5_meets_39
      · replace h := stF c6 h
        refine lv_aload_n hx hb dX5_meets_24 rfl (lv_at hl 0 rfl) ?_
        refine gf_5_15 F hw dX5_meets_25 ?_
        refine lv_iload_n hx hb dX5_meets_28 rfl (lv_at hl 1 rfl) ?_
        refine lv_iload_n hx hb dX5_meets_29 rfl (lv_at hl 2 rfl) ?_
        refine lv_iload_n hx hb dX5_meets_30 rfl (lv_at hl 3 rfl) ?_
        obtain ⟨z7, hz7, h⟩ := stB h
        refine ctS (av := [.int v1, .int v2, .int v3]) (st0 := ([.ref (q 2)] : List Value)) (st1 := ([.int z7, .ref (q 2)] : List Value)) F hw hA (k_X5_at hz7) kl_5_86 kd_X5_at rfl ⟨by decide, by decide⟩ hl.1 rfl (Nat.le_of_ble_eq_true rfl) dX5_meets_31 rfl (fun H locs hw => ?_)
        obtain ⟨g8, h⟩ := stG h
        refine al_m2 F hw g8 dX5_meets_34 ?_
        refine lv_goto (tgt := 39) hx hb dX5_meets_35 (by decide) ?_
        obtain rfl := Option.some.inj h
        exact hE H locs _ ls hw dX5_meets_39
end
theorem dX5_oppositeOf_0 : decode cX5_oppositeOf 0 = .ok (.aload_n 0, 1) := by decide +kernel
theorem dX5_oppositeOf_1 : decode cX5_oppositeOf 1 = .ok (.aload_n 0, 1) := by decide +kernel
theorem dX5_oppositeOf_2 : decode cX5_oppositeOf 2 = .ok (.getfield 62, 3) := by decide +kernel
theorem dX5_oppositeOf_5 : decode cX5_oppositeOf 5 = .ok (.aload_n 0, 1) := by decide +kernel
theorem dX5_oppositeOf_6 : decode cX5_oppositeOf 6 = .ok (.iload_n 1, 1) := by decide +kernel
theorem dX5_oppositeOf_7 : decode cX5_oppositeOf 7 = .ok (.invokevirtual 79, 3) := by decide +kernel
theorem dX5_oppositeOf_10 : decode cX5_oppositeOf 10 = .ok (.isub, 1) := by decide +kernel
theorem dX5_oppositeOf_11 : decode cX5_oppositeOf 11 = .ok (.invokevirtual 83, 3) := by decide +kernel
theorem dX5_oppositeOf_14 : decode cX5_oppositeOf 14 = .ok (.ireturn, 1) := by decide +kernel
section
variable {p : Program} {l : Launch} {e : Env} {s : State} {m : MethodId} {args : Array Value} {below : List Frame} {meth : Method} {c : Code} {Q : State → Prop} {G : GG} {A : Nat → Prop} {q : Nat → Nat} {fr : va_W}
def f_X5_oppositeOf (yp : Int32) (ye : Int32) (bPo : Nat → Int32) (v1 : Int32) : Option (Int32) :=
  (f_X5_firstOf ye bPo v1).bind fun z1 =>
  (f_X5_classAt ye bPo (yp - z1)).bind fun z2 =>
  some z2
set_option maxHeartbeats 4000000 in
set_option maxRecDepth 100000 in
theorem k_X5_oppositeOf {l : Launch} {G : GG} {q : Nat → Nat} {fr : va_W}  {yp : Int32} {ye : Int32} {yg : Int32} {bPo : Nat → Int32} {bTb : Nat → Int32} {wSh : Nat → Int64} {wTe : Nat → Int64} {wNx : Nat → Int64} {bOs : Nat → Int32} {bOn : Nat → Int32} {yop : Int32} {bSo : Nat → Int32} {bNu : Nat → Int32} {ytr : Int32} {yiw : Int32} {wMa : Nat → Int64} {wPr : Nat → Int64} {bTp : Nat → Int32} {yln : Int32} {ypl : Int32} {yfa : Int32} {wLi : Nat → Int64} {bSi : Nat → Int32} {yhp : Int32} {yhe : Int32} {yhg : Int32} {wHs : Nat → Int64} {yhi : Int32} {v1 : Int32} {z : Int32}  (h : f_X5_oppositeOf yp ye bPo v1 = some z) : Ct l G yX5_oppositeOf cX5_oppositeOf 2 (some .int) 2 43 [.ref (q 0), .int v1] (mW G q yp ye yg bPo bTb wSh wTe wNx bOs bOn yop bSo bNu ytr yiw wMa wPr bTp yln ypl yfa wLi bSi yhp yhe yhg wHs yhi ++ fr) (some (.int z)) (mW G q yp ye yg bPo bTb wSh wTe wNx bOs bOn yop bSo bNu ytr yiw wMa wPr bTp yln ypl yfa wLi bSi yhp yhe yhg wHs yhi ++ fr) := by
  refine Ct.of (by decide +kernel) (Nat.le_of_ble_eq_true rfl) trivial ?_
  intro p e s m args below meth c Q A ls F hw hA hE hl
  have hx := F.x
  have hb := F.b
  unfold f_X5_oppositeOf at h
  obtain ⟨H, hH⟩ : ∃ H, H = s.heap := ⟨_, rfl⟩
  obtain ⟨locs, hlo⟩ : ∃ locs : List Loc, locs = [] := ⟨_, rfl⟩
  rw [← hH, ← hlo] at hw ⊢
  have hl : lv_has ls 2 [(0, .ref (q 0)), (1, .int v1)] := hl
  refine lv_aload_n hx hb dX5_oppositeOf_0 rfl (lv_at hl 0 rfl) ?_
  refine lv_aload_n hx hb dX5_oppositeOf_1 rfl (lv_at hl 0 rfl) ?_
  refine gf_5_62 F hw dX5_oppositeOf_2 ?_
  refine lv_aload_n hx hb dX5_oppositeOf_5 rfl (lv_at hl 0 rfl) ?_
  refine lv_iload_n hx hb dX5_oppositeOf_6 rfl (lv_at hl 1 rfl) ?_
  obtain ⟨z1, hz1, h⟩ := stB h
  refine ctV (av := [.int v1]) (st0 := ([.int yp, .ref (q 0)] : List Value)) (st1 := ([.int z1, .int yp, .ref (q 0)] : List Value)) F hw hA (k_X5_firstOf hz1) kl_5_79 kd_X5_firstOf rfl ⟨by decide, by decide⟩ 0 rfl rfl hl.1 rfl (Nat.le_of_ble_eq_true rfl) dX5_oppositeOf_7 rfl (fun H locs hw => ?_)
  refine lv_isub hx hb dX5_oppositeOf_10 ?_
  obtain ⟨z2, hz2, h⟩ := stB h
  refine ctV (av := [.int (yp - z1)]) (st0 := ([] : List Value)) (st1 := ([.int z2] : List Value)) F hw hA (k_X5_classAt hz2) kl_5_83 kd_X5_classAt rfl ⟨by decide, by decide⟩ 0 rfl rfl hl.1 rfl (Nat.le_of_ble_eq_true rfl) dX5_oppositeOf_11 rfl (fun H locs hw => ?_)
  obtain rfl := Option.some.inj h
  exact hE H locs _ ls hw dX5_oppositeOf_14
end
theorem dX5_timesOf_0 : decode cX5_timesOf 0 = .ok (.aload_n 0, 1) := by decide +kernel
theorem dX5_timesOf_1 : decode cX5_timesOf 1 = .ok (.getfield 15, 3) := by decide +kernel
theorem dX5_timesOf_4 : decode cX5_timesOf 4 = .ok (.iload_n 1, 1) := by decide +kernel
theorem dX5_timesOf_5 : decode cX5_timesOf 5 = .ok (.iload_n 2, 1) := by decide +kernel
theorem dX5_timesOf_6 : decode cX5_timesOf 6 = .ok (.iload_n 3, 1) := by decide +kernel
theorem dX5_timesOf_7 : decode cX5_timesOf 7 = .ok (.invokestatic 86, 3) := by decide +kernel
theorem dX5_timesOf_10 : decode cX5_timesOf 10 = .ok (.iaload, 1) := by decide +kernel
theorem dX5_timesOf_11 : decode cX5_timesOf 11 = .ok (.iload_n 2, 1) := by decide +kernel
theorem dX5_timesOf_12 : decode cX5_timesOf 12 = .ok (.aload_n 0, 1) := by decide +kernel
theorem dX5_timesOf_13 : decode cX5_timesOf 13 = .ok (.iload_n 1, 1) := by decide +kernel
theorem dX5_timesOf_14 : decode cX5_timesOf 14 = .ok (.invokevirtual 121, 3) := by decide +kernel
theorem dX5_timesOf_17 : decode cX5_timesOf 17 = .ok (.if_icmp .ne 17, 3) := by decide +kernel
theorem dX5_timesOf_20 : decode cX5_timesOf 20 = .ok (.aload_n 0, 1) := by decide +kernel
theorem dX5_timesOf_21 : decode cX5_timesOf 21 = .ok (.getfield 62, 3) := by decide +kernel
theorem dX5_timesOf_24 : decode cX5_timesOf 24 = .ok (.iconst 1, 1) := by decide +kernel
theorem dX5_timesOf_25 : decode cX5_timesOf 25 = .ok (.isub, 1) := by decide +kernel
theorem dX5_timesOf_26 : decode cX5_timesOf 26 = .ok (.aload_n 0, 1) := by decide +kernel
theorem dX5_timesOf_27 : decode cX5_timesOf 27 = .ok (.getfield 66, 3) := by decide +kernel
theorem dX5_timesOf_30 : decode cX5_timesOf 30 = .ok (.idiv, 1) := by decide +kernel
theorem dX5_timesOf_31 : decode cX5_timesOf 31 = .ok (.goto 4, 3) := by decide +kernel
theorem dX5_timesOf_34 : decode cX5_timesOf 34 = .ok (.iconst 0, 1) := by decide +kernel
theorem dX5_timesOf_35 : decode cX5_timesOf 35 = .ok (.isub, 1) := by decide +kernel
theorem dX5_timesOf_36 : decode cX5_timesOf 36 = .ok (.ireturn, 1) := by decide +kernel
section
variable {p : Program} {l : Launch} {e : Env} {s : State} {m : MethodId} {args : Array Value} {below : List Frame} {meth : Method} {c : Code} {Q : State → Prop} {G : GG} {A : Nat → Prop} {q : Nat → Nat} {fr : va_W}
def f_X5_timesOf (yp : Int32) (ye : Int32) (bPo : Nat → Int32) (bTb : Nat → Int32) (v1 : Int32) (v2 : Int32) (v3 : Int32) : Option (Int32) :=
  (f_X5_at v1 v2 v3).bind fun z1 =>
  if inb z1 1728 then
  (f_X5_oppositeOf yp ye bPo v1).bind fun z3 =>
  if v2 = z3 then
  if ye = 0 then none else
  some ((bTb z1.toNatClampNeg) - ((yp - 1) / ye))
  else
  some ((bTb z1.toNatClampNeg) - 0)
  else none
set_option maxHeartbeats 4000000 in
set_option maxRecDepth 100000 in
theorem k_X5_timesOf {l : Launch} {G : GG} {q : Nat → Nat} {fr : va_W}  {yp : Int32} {ye : Int32} {yg : Int32} {bPo : Nat → Int32} {bTb : Nat → Int32} {wSh : Nat → Int64} {wTe : Nat → Int64} {wNx : Nat → Int64} {bOs : Nat → Int32} {bOn : Nat → Int32} {yop : Int32} {bSo : Nat → Int32} {bNu : Nat → Int32} {ytr : Int32} {yiw : Int32} {wMa : Nat → Int64} {wPr : Nat → Int64} {bTp : Nat → Int32} {yln : Int32} {ypl : Int32} {yfa : Int32} {wLi : Nat → Int64} {bSi : Nat → Int32} {yhp : Int32} {yhe : Int32} {yhg : Int32} {wHs : Nat → Int64} {yhi : Int32} {v1 : Int32} {v2 : Int32} {v3 : Int32} {z : Int32}  (h : f_X5_timesOf yp ye bPo bTb v1 v2 v3 = some z) : Ct l G yX5_timesOf cX5_timesOf 4 (some .int) 3 64 [.ref (q 0), .int v1, .int v2, .int v3] (mW G q yp ye yg bPo bTb wSh wTe wNx bOs bOn yop bSo bNu ytr yiw wMa wPr bTp yln ypl yfa wLi bSi yhp yhe yhg wHs yhi ++ fr) (some (.int z)) (mW G q yp ye yg bPo bTb wSh wTe wNx bOs bOn yop bSo bNu ytr yiw wMa wPr bTp yln ypl yfa wLi bSi yhp yhe yhg wHs yhi ++ fr) := by
  refine Ct.of (by decide +kernel) (Nat.le_of_ble_eq_true rfl) trivial ?_
  intro p e s m args below meth c Q A ls F hw hA hE hl
  have hx := F.x
  have hb := F.b
  unfold f_X5_timesOf at h
  obtain ⟨H, hH⟩ : ∃ H, H = s.heap := ⟨_, rfl⟩
  obtain ⟨locs, hlo⟩ : ∃ locs : List Loc, locs = [] := ⟨_, rfl⟩
  rw [← hH, ← hlo] at hw ⊢
  have hl : lv_has ls 4 [(0, .ref (q 0)), (1, .int v1), (2, .int v2), (3, .int v3)] := hl
  refine lv_aload_n hx hb dX5_timesOf_0 rfl (lv_at hl 0 rfl) ?_
  refine gf_5_15 F hw dX5_timesOf_1 ?_
  refine lv_iload_n hx hb dX5_timesOf_4 rfl (lv_at hl 1 rfl) ?_
  refine lv_iload_n hx hb dX5_timesOf_5 rfl (lv_at hl 2 rfl) ?_
  refine lv_iload_n hx hb dX5_timesOf_6 rfl (lv_at hl 3 rfl) ?_
  obtain ⟨z1, hz1, h⟩ := stB h
  refine ctS (av := [.int v1, .int v2, .int v3]) (st0 := ([.ref (q 2)] : List Value)) (st1 := ([.int z1, .ref (q 2)] : List Value)) F hw hA (k_X5_at hz1) kl_5_86 kd_X5_at rfl ⟨by decide, by decide⟩ hl.1 rfl (Nat.le_of_ble_eq_true rfl) dX5_timesOf_7 rfl (fun H locs hw => ?_)
  obtain ⟨g2, h⟩ := stG h
  refine al_m2 F hw g2 dX5_timesOf_10 ?_
  refine lv_iload_n hx hb dX5_timesOf_11 rfl (lv_at hl 2 rfl) ?_
  refine lv_aload_n hx hb dX5_timesOf_12 rfl (lv_at hl 0 rfl) ?_
  refine lv_iload_n hx hb dX5_timesOf_13 rfl (lv_at hl 1 rfl) ?_
  obtain ⟨z3, hz3, h⟩ := stB h
  refine ctV (av := [.int v1]) (st0 := ([.int v2, .int (bTb z1.toNatClampNeg)] : List Value)) (st1 := ([.int z3, .int v2, .int (bTb z1.toNatClampNeg)] : List Value)) F hw hA (k_X5_oppositeOf hz3) kl_5_121 kd_X5_oppositeOf rfl ⟨by decide, by decide⟩ 0 rfl rfl hl.1 rfl (Nat.le_of_ble_eq_true rfl) dX5_timesOf_14 rfl (fun H locs hw => ?_)
  refine lv_icmp_ne (tgt := 34) hx hb dX5_timesOf_17 (by decide) (fun c4 => ?_) (fun c4 => ?_)
  · replace h := stF c4 h
    refine lv_iconst (v := 0) hx hb dX5_timesOf_34 (by decide) ?_
    refine lv_isub hx hb dX5_timesOf_35 ?_
    obtain rfl := Option.some.inj h
    exact hE H locs _ ls hw dX5_timesOf_36
  · replace h := stT c4 h
    refine lv_aload_n hx hb dX5_timesOf_20 rfl (lv_at hl 0 rfl) ?_
    refine gf_5_62 F hw dX5_timesOf_21 ?_
    refine lv_iconst (v := 1) hx hb dX5_timesOf_24 (by decide) ?_
    refine lv_isub hx hb dX5_timesOf_25 ?_
    refine lv_aload_n hx hb dX5_timesOf_26 rfl (lv_at hl 0 rfl) ?_
    refine gf_5_66 F hw dX5_timesOf_27 ?_
    obtain ⟨g5, h⟩ := stD h
    refine lv_idiv hx hb dX5_timesOf_30 g5 ?_
    refine lv_goto (tgt := 35) hx hb dX5_timesOf_31 (by decide) ?_
    refine lv_isub hx hb dX5_timesOf_35 ?_
    obtain rfl := Option.some.inj h
    exact hE H locs _ ls hw dX5_timesOf_36
end
theorem dX5_times_0 : decode cX5_times 0 = .ok (.aload_n 0, 1) := by decide +kernel
theorem dX5_times_1 : decode cX5_times 1 = .ok (.iload_n 1, 1) := by decide +kernel
theorem dX5_times_2 : decode cX5_times 2 = .ok (.invokevirtual 114, 3) := by decide +kernel
theorem dX5_times_5 : decode cX5_times 5 = .ok (.ifCond .eq 33, 3) := by decide +kernel
theorem dX5_times_8 : decode cX5_times 8 = .ok (.aload_n 0, 1) := by decide +kernel
theorem dX5_times_9 : decode cX5_times 9 = .ok (.iload_n 2, 1) := by decide +kernel
theorem dX5_times_10 : decode cX5_times 10 = .ok (.invokevirtual 114, 3) := by decide +kernel
theorem dX5_times_13 : decode cX5_times 13 = .ok (.ifCond .eq 25, 3) := by decide +kernel
theorem dX5_times_16 : decode cX5_times 16 = .ok (.aload_n 0, 1) := by decide +kernel
theorem dX5_times_17 : decode cX5_times 17 = .ok (.iload_n 3, 1) := by decide +kernel
theorem dX5_times_18 : decode cX5_times 18 = .ok (.invokevirtual 114, 3) := by decide +kernel
theorem dX5_times_21 : decode cX5_times 21 = .ok (.ifCond .eq 17, 3) := by decide +kernel
theorem dX5_times_24 : decode cX5_times 24 = .ok (.sipush 1000, 3) := by decide +kernel
theorem dX5_times_27 : decode cX5_times 27 = .ok (.aload_n 0, 1) := by decide +kernel
theorem dX5_times_28 : decode cX5_times 28 = .ok (.iload_n 1, 1) := by decide +kernel
theorem dX5_times_29 : decode cX5_times 29 = .ok (.iload_n 2, 1) := by decide +kernel
theorem dX5_times_30 : decode cX5_times 30 = .ok (.iload_n 3, 1) := by decide +kernel
theorem dX5_times_31 : decode cX5_times 31 = .ok (.invokevirtual 124, 3) := by decide +kernel
theorem dX5_times_34 : decode cX5_times 34 = .ok (.iadd, 1) := by decide +kernel
theorem dX5_times_35 : decode cX5_times 35 = .ok (.goto 4, 3) := by decide +kernel
theorem dX5_times_38 : decode cX5_times 38 = .ok (.iconst (-1), 1) := by decide +kernel
theorem dX5_times_39 : decode cX5_times 39 = .ok (.ireturn, 1) := by decide +kernel
section
variable {p : Program} {l : Launch} {e : Env} {s : State} {m : MethodId} {args : Array Value} {below : List Frame} {meth : Method} {c : Code} {Q : State → Prop} {G : GG} {A : Nat → Prop} {q : Nat → Nat} {fr : va_W}
def f_X5_times (yp : Int32) (ye : Int32) (bPo : Nat → Int32) (bTb : Nat → Int32) (v1 : Int32) (v2 : Int32) (v3 : Int32) : Option (Int32) :=
  (f_X5_isClass ye v1).bind fun z1 =>
  if z1 = 0 then
  some (-1)
  else
  (f_X5_isClass ye v2).bind fun z3 =>
  if z3 = 0 then
  some (-1)
  else
  (f_X5_isClass ye v3).bind fun z5 =>
  if z5 = 0 then
  some (-1)
  else
  (f_X5_timesOf yp ye bPo bTb v1 v2 v3).bind fun z7 =>
  some (1000 + z7)
set_option maxHeartbeats 4000000 in
set_option maxRecDepth 100000 in
theorem k_X5_times {l : Launch} {G : GG} {q : Nat → Nat} {fr : va_W}  {yp : Int32} {ye : Int32} {yg : Int32} {bPo : Nat → Int32} {bTb : Nat → Int32} {wSh : Nat → Int64} {wTe : Nat → Int64} {wNx : Nat → Int64} {bOs : Nat → Int32} {bOn : Nat → Int32} {yop : Int32} {bSo : Nat → Int32} {bNu : Nat → Int32} {ytr : Int32} {yiw : Int32} {wMa : Nat → Int64} {wPr : Nat → Int64} {bTp : Nat → Int32} {yln : Int32} {ypl : Int32} {yfa : Int32} {wLi : Nat → Int64} {bSi : Nat → Int32} {yhp : Int32} {yhe : Int32} {yhg : Int32} {wHs : Nat → Int64} {yhi : Int32} {v1 : Int32} {v2 : Int32} {v3 : Int32} {z : Int32}  (h : f_X5_times yp ye bPo bTb v1 v2 v3 = some z) : Ct l G yX5_times cX5_times 4 (some .int) 4 87 [.ref (q 0), .int v1, .int v2, .int v3] (mW G q yp ye yg bPo bTb wSh wTe wNx bOs bOn yop bSo bNu ytr yiw wMa wPr bTp yln ypl yfa wLi bSi yhp yhe yhg wHs yhi ++ fr) (some (.int z)) (mW G q yp ye yg bPo bTb wSh wTe wNx bOs bOn yop bSo bNu ytr yiw wMa wPr bTp yln ypl yfa wLi bSi yhp yhe yhg wHs yhi ++ fr) := by
  refine Ct.of (by decide +kernel) (Nat.le_of_ble_eq_true rfl) trivial ?_
  intro p e s m args below meth c Q A ls F hw hA hE hl
  have hx := F.x
  have hb := F.b
  unfold f_X5_times at h
  obtain ⟨H, hH⟩ : ∃ H, H = s.heap := ⟨_, rfl⟩
  obtain ⟨locs, hlo⟩ : ∃ locs : List Loc, locs = [] := ⟨_, rfl⟩
  rw [← hH, ← hlo] at hw ⊢
  have hl : lv_has ls 4 [(0, .ref (q 0)), (1, .int v1), (2, .int v2), (3, .int v3)] := hl
  refine lv_aload_n hx hb dX5_times_0 rfl (lv_at hl 0 rfl) ?_
  refine lv_iload_n hx hb dX5_times_1 rfl (lv_at hl 1 rfl) ?_
  obtain ⟨z1, hz1, h⟩ := stB h
  refine ctV (av := [.int v1]) (st0 := ([] : List Value)) (st1 := ([.int z1] : List Value)) F hw hA (k_X5_isClass hz1) kl_5_114 kd_X5_isClass rfl ⟨by decide, by decide⟩ 0 rfl rfl hl.1 rfl (Nat.le_of_ble_eq_true rfl) dX5_times_2 rfl (fun H locs hw => ?_)
  refine lv_if_eq (tgt := 38) hx hb dX5_times_5 (by decide) (fun c2 => ?_) (fun c2 => ?_)
  · replace h := stT c2 h
    refine lv_iconst (v := -1) hx hb dX5_times_38 (by decide) ?_
    obtain rfl := Option.some.inj h
    exact hE H locs _ ls hw dX5_times_39
  · replace h := stF c2 h
    refine lv_aload_n hx hb dX5_times_8 rfl (lv_at hl 0 rfl) ?_
    refine lv_iload_n hx hb dX5_times_9 rfl (lv_at hl 2 rfl) ?_
    obtain ⟨z3, hz3, h⟩ := stB h
    refine ctV (av := [.int v2]) (st0 := ([] : List Value)) (st1 := ([.int z3] : List Value)) F hw hA (k_X5_isClass hz3) kl_5_114 kd_X5_isClass rfl ⟨by decide, by decide⟩ 0 rfl rfl hl.1 rfl (Nat.le_of_ble_eq_true rfl) dX5_times_10 rfl (fun H locs hw => ?_)
    refine lv_if_eq (tgt := 38) hx hb dX5_times_13 (by decide) (fun c4 => ?_) (fun c4 => ?_)
    · replace h := stT c4 h
      refine lv_iconst (v := -1) hx hb dX5_times_38 (by decide) ?_
      obtain rfl := Option.some.inj h
      exact hE H locs _ ls hw dX5_times_39
    · replace h := stF c4 h
      refine lv_aload_n hx hb dX5_times_16 rfl (lv_at hl 0 rfl) ?_
      refine lv_iload_n hx hb dX5_times_17 rfl (lv_at hl 3 rfl) ?_
      obtain ⟨z5, hz5, h⟩ := stB h
      refine ctV (av := [.int v3]) (st0 := ([] : List Value)) (st1 := ([.int z5] : List Value)) F hw hA (k_X5_isClass hz5) kl_5_114 kd_X5_isClass rfl ⟨by decide, by decide⟩ 0 rfl rfl hl.1 rfl (Nat.le_of_ble_eq_true rfl) dX5_times_18 rfl (fun H locs hw => ?_)
      refine lv_if_eq (tgt := 38) hx hb dX5_times_21 (by decide) (fun c6 => ?_) (fun c6 => ?_)
      · replace h := stT c6 h
        refine lv_iconst (v := -1) hx hb dX5_times_38 (by decide) ?_
        obtain rfl := Option.some.inj h
        exact hE H locs _ ls hw dX5_times_39
      · replace h := stF c6 h
        refine lv_sipush (v := 1000) hx hb dX5_times_24 (by decide) ?_
        refine lv_aload_n hx hb dX5_times_27 rfl (lv_at hl 0 rfl) ?_
        refine lv_iload_n hx hb dX5_times_28 rfl (lv_at hl 1 rfl) ?_
        refine lv_iload_n hx hb dX5_times_29 rfl (lv_at hl 2 rfl) ?_
        refine lv_iload_n hx hb dX5_times_30 rfl (lv_at hl 3 rfl) ?_
        obtain ⟨z7, hz7, h⟩ := stB h
        refine ctV (av := [.int v1, .int v2, .int v3]) (st0 := ([.int 1000] : List Value)) (st1 := ([.int z7, .int 1000] : List Value)) F hw hA (k_X5_timesOf hz7) kl_5_124 kd_X5_timesOf rfl ⟨by decide, by decide⟩ 0 rfl rfl hl.1 rfl (Nat.le_of_ble_eq_true rfl) dX5_times_31 rfl (fun H locs hw => ?_)
        refine lv_iadd hx hb dX5_times_34 ?_
        refine lv_goto (tgt := 39) hx hb dX5_times_35 (by decide) ?_
        obtain rfl := Option.some.inj h
        exact hE H locs _ ls hw dX5_times_39
end
theorem dX5_opposite_0 : decode cX5_opposite 0 = .ok (.aload_n 0, 1) := by decide +kernel
theorem dX5_opposite_1 : decode cX5_opposite 1 = .ok (.iload_n 1, 1) := by decide +kernel
theorem dX5_opposite_2 : decode cX5_opposite 2 = .ok (.invokevirtual 114, 3) := by decide +kernel
theorem dX5_opposite_5 : decode cX5_opposite 5 = .ok (.ifCond .eq 11, 3) := by decide +kernel
theorem dX5_opposite_8 : decode cX5_opposite 8 = .ok (.aload_n 0, 1) := by decide +kernel
theorem dX5_opposite_9 : decode cX5_opposite 9 = .ok (.iload_n 1, 1) := by decide +kernel
theorem dX5_opposite_10 : decode cX5_opposite 10 = .ok (.invokevirtual 121, 3) := by decide +kernel
theorem dX5_opposite_13 : decode cX5_opposite 13 = .ok (.goto 4, 3) := by decide +kernel
theorem dX5_opposite_16 : decode cX5_opposite 16 = .ok (.iconst (-1), 1) := by decide +kernel
theorem dX5_opposite_17 : decode cX5_opposite 17 = .ok (.ireturn, 1) := by decide +kernel
section
variable {p : Program} {l : Launch} {e : Env} {s : State} {m : MethodId} {args : Array Value} {below : List Frame} {meth : Method} {c : Code} {Q : State → Prop} {G : GG} {A : Nat → Prop} {q : Nat → Nat} {fr : va_W}
def f_X5_opposite (yp : Int32) (ye : Int32) (bPo : Nat → Int32) (v1 : Int32) : Option (Int32) :=
  (f_X5_isClass ye v1).bind fun z1 =>
  if z1 = 0 then
  some (-1)
  else
  (f_X5_oppositeOf yp ye bPo v1).bind fun z3 =>
  some z3
set_option maxHeartbeats 4000000 in
set_option maxRecDepth 100000 in
theorem k_X5_opposite {l : Launch} {G : GG} {q : Nat → Nat} {fr : va_W}  {yp : Int32} {ye : Int32} {yg : Int32} {bPo : Nat → Int32} {bTb : Nat → Int32} {wSh : Nat → Int64} {wTe : Nat → Int64} {wNx : Nat → Int64} {bOs : Nat → Int32} {bOn : Nat → Int32} {yop : Int32} {bSo : Nat → Int32} {bNu : Nat → Int32} {ytr : Int32} {yiw : Int32} {wMa : Nat → Int64} {wPr : Nat → Int64} {bTp : Nat → Int32} {yln : Int32} {ypl : Int32} {yfa : Int32} {wLi : Nat → Int64} {bSi : Nat → Int32} {yhp : Int32} {yhe : Int32} {yhg : Int32} {wHs : Nat → Int64} {yhi : Int32} {v1 : Int32} {z : Int32}  (h : f_X5_opposite yp ye bPo v1 = some z) : Ct l G yX5_opposite cX5_opposite 2 (some .int) 3 64 [.ref (q 0), .int v1] (mW G q yp ye yg bPo bTb wSh wTe wNx bOs bOn yop bSo bNu ytr yiw wMa wPr bTp yln ypl yfa wLi bSi yhp yhe yhg wHs yhi ++ fr) (some (.int z)) (mW G q yp ye yg bPo bTb wSh wTe wNx bOs bOn yop bSo bNu ytr yiw wMa wPr bTp yln ypl yfa wLi bSi yhp yhe yhg wHs yhi ++ fr) := by
  refine Ct.of (by decide +kernel) (Nat.le_of_ble_eq_true rfl) trivial ?_
  intro p e s m args below meth c Q A ls F hw hA hE hl
  have hx := F.x
  have hb := F.b
  unfold f_X5_opposite at h
  obtain ⟨H, hH⟩ : ∃ H, H = s.heap := ⟨_, rfl⟩
  obtain ⟨locs, hlo⟩ : ∃ locs : List Loc, locs = [] := ⟨_, rfl⟩
  rw [← hH, ← hlo] at hw ⊢
  have hl : lv_has ls 2 [(0, .ref (q 0)), (1, .int v1)] := hl
  refine lv_aload_n hx hb dX5_opposite_0 rfl (lv_at hl 0 rfl) ?_
  refine lv_iload_n hx hb dX5_opposite_1 rfl (lv_at hl 1 rfl) ?_
  obtain ⟨z1, hz1, h⟩ := stB h
  refine ctV (av := [.int v1]) (st0 := ([] : List Value)) (st1 := ([.int z1] : List Value)) F hw hA (k_X5_isClass hz1) kl_5_114 kd_X5_isClass rfl ⟨by decide, by decide⟩ 0 rfl rfl hl.1 rfl (Nat.le_of_ble_eq_true rfl) dX5_opposite_2 rfl (fun H locs hw => ?_)
  refine lv_if_eq (tgt := 16) hx hb dX5_opposite_5 (by decide) (fun c2 => ?_) (fun c2 => ?_)
  · replace h := stT c2 h
    refine lv_iconst (v := -1) hx hb dX5_opposite_16 (by decide) ?_
    obtain rfl := Option.some.inj h
    exact hE H locs _ ls hw dX5_opposite_17
  · replace h := stF c2 h
    refine lv_aload_n hx hb dX5_opposite_8 rfl (lv_at hl 0 rfl) ?_
    refine lv_iload_n hx hb dX5_opposite_9 rfl (lv_at hl 1 rfl) ?_
    obtain ⟨z3, hz3, h⟩ := stB h
    refine ctV (av := [.int v1]) (st0 := ([] : List Value)) (st1 := ([.int z3] : List Value)) F hw hA (k_X5_oppositeOf hz3) kl_5_121 kd_X5_oppositeOf rfl ⟨by decide, by decide⟩ 0 rfl rfl hl.1 rfl (Nat.le_of_ble_eq_true rfl) dX5_opposite_10 rfl (fun H locs hw => ?_)
    refine lv_goto (tgt := 17) hx hb dX5_opposite_13 (by decide) ?_
    obtain rfl := Option.some.inj h
    exact hE H locs _ ls hw dX5_opposite_17
end
theorem dX5_around_0 : decode cX5_around 0 = .ok (.aload_n 0, 1) := by decide +kernel
theorem dX5_around_1 : decode cX5_around 1 = .ok (.iload_n 1, 1) := by decide +kernel
theorem dX5_around_2 : decode cX5_around 2 = .ok (.invokevirtual 114, 3) := by decide +kernel
theorem dX5_around_5 : decode cX5_around 5 = .ok (.ifCond .eq 13, 3) := by decide +kernel
theorem dX5_around_8 : decode cX5_around 8 = .ok (.iload_n 2, 1) := by decide +kernel
theorem dX5_around_9 : decode cX5_around 9 = .ok (.i2l, 1) := by decide +kernel
theorem dX5_around_10 : decode cX5_around 10 = .ok (.lconst 0, 1) := by decide +kernel
theorem dX5_around_11 : decode cX5_around 11 = .ok (.lconst 1, 1) := by decide +kernel
theorem dX5_around_12 : decode cX5_around 12 = .ok (.invokestatic 90, 3) := by decide +kernel
theorem dX5_around_15 : decode cX5_around 15 = .ok (.ifCond .ne 5, 3) := by decide +kernel
theorem dX5_around_18 : decode cX5_around 18 = .ok (.iconst (-1), 1) := by decide +kernel
theorem dX5_around_19 : decode cX5_around 19 = .ok (.ireturn, 1) := by decide +kernel
theorem dX5_around_20 : decode cX5_around 20 = .ok (.iconst 0, 1) := by decide +kernel
theorem dX5_around_21 : decode cX5_around 21 = .ok (.istore_n 3, 1) := by decide +kernel
theorem dX5_around_22 : decode cX5_around 22 = .ok (.iconst 0, 1) := by decide +kernel
theorem dX5_around_23 : decode cX5_around 23 = .ok (.istore 4, 2) := by decide +kernel
theorem dX5_around_25 : decode cX5_around 25 = .ok (.iload 4, 2) := by decide +kernel
theorem dX5_around_27 : decode cX5_around 27 = .ok (.aload_n 0, 1) := by decide +kernel
theorem dX5_around_28 : decode cX5_around 28 = .ok (.getfield 66, 3) := by decide +kernel
theorem dX5_around_31 : decode cX5_around 31 = .ok (.if_icmp .ge 33, 3) := by decide +kernel
theorem dX5_around_34 : decode cX5_around 34 = .ok (.iload_n 3, 1) := by decide +kernel
theorem dX5_around_35 : decode cX5_around 35 = .ok (.iload_n 2, 1) := by decide +kernel
theorem dX5_around_36 : decode cX5_around 36 = .ok (.ifCond .ne 13, 3) := by decide +kernel
theorem dX5_around_39 : decode cX5_around 39 = .ok (.aload_n 0, 1) := by decide +kernel
theorem dX5_around_40 : decode cX5_around 40 = .ok (.iload_n 1, 1) := by decide +kernel
theorem dX5_around_41 : decode cX5_around 41 = .ok (.iload 4, 2) := by decide +kernel
theorem dX5_around_43 : decode cX5_around 43 = .ok (.invokevirtual 117, 3) := by decide +kernel
theorem dX5_around_46 : decode cX5_around 46 = .ok (.goto 10, 3) := by decide +kernel
theorem dX5_around_49 : decode cX5_around 49 = .ok (.aload_n 0, 1) := by decide +kernel
theorem dX5_around_50 : decode cX5_around 50 = .ok (.iload 4, 2) := by decide +kernel
theorem dX5_around_52 : decode cX5_around 52 = .ok (.iload_n 1, 1) := by decide +kernel
theorem dX5_around_53 : decode cX5_around 53 = .ok (.invokevirtual 117, 3) := by decide +kernel
theorem dX5_around_56 : decode cX5_around 56 = .ok (.iadd, 1) := by decide +kernel
theorem dX5_around_57 : decode cX5_around 57 = .ok (.istore_n 3, 1) := by decide +kernel
theorem dX5_around_58 : decode cX5_around 58 = .ok (.iinc 4 1, 3) := by decide +kernel
theorem dX5_around_61 : decode cX5_around 61 = .ok (.goto (-36), 3) := by decide +kernel
theorem dX5_around_64 : decode cX5_around 64 = .ok (.iload_n 3, 1) := by decide +kernel
theorem dX5_around_65 : decode cX5_around 65 = .ok (.ireturn, 1) := by decide +kernel
section
variable {p : Program} {l : Launch} {e : Env} {s : State} {m : MethodId} {args : Array Value} {below : List Frame} {meth : Method} {c : Code} {Q : State → Prop} {G : GG} {A : Nat → Prop} {q : Nat → Nat} {fr : va_W}
def f_X5_around_L25 (yp : Int32) (ye : Int32) (bPo : Nat → Int32) (v1 : Int32) (v2 : Int32) : Nat → Int32 → Int32 → Option (Int32)
  | 0, _, _ => none
  | fu + 1, v3, v4 =>
    if ye ≤ v4 then
    some v3
    else
    if v2 = 0 then
    (f_X5_besideOf yp ye bPo v1 v4).bind fun z4 =>
    f_X5_around_L25 yp ye bPo v1 v2 fu (v3 + z4) (v4 + 1)
    else
    (f_X5_besideOf yp ye bPo v4 v1).bind fun z3 =>
    f_X5_around_L25 yp ye bPo v1 v2 fu (v3 + z3) (v4 + 1)
set_option maxHeartbeats 4000000 in
set_option maxRecDepth 100000 in
theorem w_X5_around_L25  {yp : Int32} {ye : Int32} {yg : Int32} {bPo : Nat → Int32} {bTb : Nat → Int32} {wSh : Nat → Int64} {wTe : Nat → Int64} {wNx : Nat → Int64} {bOs : Nat → Int32} {bOn : Nat → Int32} {yop : Int32} {bSo : Nat → Int32} {bNu : Nat → Int32} {ytr : Int32} {yiw : Int32} {wMa : Nat → Int64} {wPr : Nat → Int64} {bTp : Nat → Int32} {yln : Int32} {ypl : Int32} {yfa : Int32} {wLi : Nat → Int64} {bSi : Nat → Int32} {yhp : Int32} {yhe : Int32} {yhg : Int32} {wHs : Nat → Int64} {yhi : Int32} {v1 : Int32} {v2 : Int32}  (F : Fx p s m args meth c cX5_around 5 RX5 (some .int)) (hA : ∀ q, s.heap.size ≤ q → A q)   : ∀ (fu : Nat) (v3 : Int32) (v4 : Int32) (z : Int32), f_X5_around_L25 yp ye bPo v1 v2 fu v3 v4 = some z → Ends p l e (rmOf 2 46) s m args below meth c Q cX5_around G A (some .int) (some (.int z)) (mW G q yp ye yg bPo bTb wSh wTe wNx bOs bOn yop bSo bNu ytr yiw wMa wPr bTp yln ypl yfa wLi bSi yhp yhe yhg wHs yhi ++ fr) → ∀ (H : Heap) (locs : List Loc) (ls : Array Slot), Wd G s A (mW G q yp ye yg bPo bTb wSh wTe wNx bOs bOn yop bSo bNu ytr yiw wMa wPr bTp yln ypl yfa wLi bSi yhp yhe yhg wHs yhi ++ fr) H locs → lv_has ls 5 [(0, .ref (q 0)), (1, .int v1), (2, .int v2), (3, .int v3), (4, .int v4)] → W p l e (rmOf 2 46) s m args below meth c H locs 0 0 Q (F0 m 25 ls []) := by
  have hx := F.x
  have hb := F.b
  intro fu
  induction fu with
  | zero =>
    intro v3 v4 z h
    cases (h : none = some z)
  | succ fu ih =>
    intro v3 v4 z h hE H locs ls hw hl
    rw [f_X5_around_L25] at h
    refine lv_iload hx hb dX5_around_25 (lv_at hl 4 rfl) ?_
    refine lv_aload_n hx hb dX5_around_27 rfl (lv_at hl 0 rfl) ?_
    refine gf_5_66 F hw dX5_around_28 ?_
    refine lv_icmp_ge (tgt := 64) hx hb dX5_around_31 (by decide) (fun c1 => ?_) (fun c1 => ?_)
    · replace h := stT c1 h
      refine lv_iload_n hx hb dX5_around_64 rfl (lv_at hl 3 rfl) ?_
      obtain rfl := Option.some.inj h
      exact hE H locs _ ls hw dX5_around_65
    · replace h := stF c1 h
      refine lv_iload_n hx hb dX5_around_34 rfl (lv_at hl 3 rfl) ?_
      refine lv_iload_n hx hb dX5_around_35 rfl (lv_at hl 2 rfl) ?_
      refine lv_if_ne (tgt := 49) hx hb dX5_around_36 (by decide) (fun c2 => ?_) (fun c2 => ?_)
      · replace h := stF c2 h
        refine lv_aload_n hx hb dX5_around_49 rfl (lv_at hl 0 rfl) ?_
        refine lv_iload hx hb dX5_around_50 (lv_at hl 4 rfl) ?_
        refine lv_iload_n hx hb dX5_around_52 rfl (lv_at hl 1 rfl) ?_
        obtain ⟨z3, hz3, h⟩ := stB h
        refine ctV (av := [.int v4, .int v1]) (st0 := ([.int v3] : List Value)) (st1 := ([.int z3, .int v3] : List Value)) F hw hA (k_X5_besideOf hz3) kl_5_117 kd_X5_besideOf rfl ⟨by decide, by decide⟩ 0 rfl rfl hl.1 rfl (Nat.le_of_ble_eq_true rfl) dX5_around_53 rfl (fun H locs hw => ?_)
        refine lv_iadd hx hb dX5_around_56 ?_
        refine lv_istore_n (lv' := [(3, .int (v3 + z3)), (0, .ref (q 0)), (1, .int v1), (2, .int v2), (4, .int v4)]) hx hb dX5_around_57 rfl hl (by decide) rfl (fun ls hl => ?_)
        refine lv_iinc (v := (v4 + 1)) (lv' := [(4, .int (v4 + 1)), (3, .int (v3 + z3)), (0, .ref (q 0)), (1, .int v1), (2, .int v2)]) hx hb dX5_around_58 hl (k := 4) rfl rfl (by decide) rfl (fun ls hl => ?_)
        refine lv_goto (tgt := 25) hx hb dX5_around_61 (by decide) ?_
        exact ih _ _ z h hE H locs ls hw (lv_sub hl [2, 3, 4, 1, 0] rfl)
      · replace h := stT c2 h
        refine lv_aload_n hx hb dX5_around_39 rfl (lv_at hl 0 rfl) ?_
        refine lv_iload_n hx hb dX5_around_40 rfl (lv_at hl 1 rfl) ?_
        refine lv_iload hx hb dX5_around_41 (lv_at hl 4 rfl) ?_
        obtain ⟨z4, hz4, h⟩ := stB h
        refine ctV (av := [.int v1, .int v4]) (st0 := ([.int v3] : List Value)) (st1 := ([.int z4, .int v3] : List Value)) F hw hA (k_X5_besideOf hz4) kl_5_117 kd_X5_besideOf rfl ⟨by decide, by decide⟩ 0 rfl rfl hl.1 rfl (Nat.le_of_ble_eq_true rfl) dX5_around_43 rfl (fun H locs hw => ?_)
        refine lv_goto (tgt := 56) hx hb dX5_around_46 (by decide) ?_
        refine lv_iadd hx hb dX5_around_56 ?_
        refine lv_istore_n (lv' := [(3, .int (v3 + z4)), (0, .ref (q 0)), (1, .int v1), (2, .int v2), (4, .int v4)]) hx hb dX5_around_57 rfl hl (by decide) rfl (fun ls hl => ?_)
        refine lv_iinc (v := (v4 + 1)) (lv' := [(4, .int (v4 + 1)), (3, .int (v3 + z4)), (0, .ref (q 0)), (1, .int v1), (2, .int v2)]) hx hb dX5_around_58 hl (k := 4) rfl rfl (by decide) rfl (fun ls hl => ?_)
        refine lv_goto (tgt := 25) hx hb dX5_around_61 (by decide) ?_
        exact ih _ _ z h hE H locs ls hw (lv_sub hl [2, 3, 4, 1, 0] rfl)
def f_X5_around (yp : Int32) (ye : Int32) (bPo : Nat → Int32) (v1 : Int32) (v2 : Int32) : Option (Int32) :=
  (f_X5_isClass ye v1).bind fun z1 =>
  if z1 = 0 then
  some (-1)
  else
  (f_X5_in v2.toInt64 0 1).bind fun z3 =>
  if z3 = 0 then
  some (-1)
  else
  f_X5_around_L25 yp ye bPo v1 v2 FU 0 0
set_option maxHeartbeats 4000000 in
set_option maxRecDepth 100000 in
theorem k_X5_around {l : Launch} {G : GG} {q : Nat → Nat} {fr : va_W}  {yp : Int32} {ye : Int32} {yg : Int32} {bPo : Nat → Int32} {bTb : Nat → Int32} {wSh : Nat → Int64} {wTe : Nat → Int64} {wNx : Nat → Int64} {bOs : Nat → Int32} {bOn : Nat → Int32} {yop : Int32} {bSo : Nat → Int32} {bNu : Nat → Int32} {ytr : Int32} {yiw : Int32} {wMa : Nat → Int64} {wPr : Nat → Int64} {bTp : Nat → Int32} {yln : Int32} {ypl : Int32} {yfa : Int32} {wLi : Nat → Int64} {bSi : Nat → Int32} {yhp : Int32} {yhe : Int32} {yhg : Int32} {wHs : Nat → Int64} {yhi : Int32} {v1 : Int32} {v2 : Int32} {z : Int32}  (h : f_X5_around yp ye bPo v1 v2 = some z) : Ct l G yX5_around cX5_around 5 (some .int) 2 46 [.ref (q 0), .int v1, .int v2] (mW G q yp ye yg bPo bTb wSh wTe wNx bOs bOn yop bSo bNu ytr yiw wMa wPr bTp yln ypl yfa wLi bSi yhp yhe yhg wHs yhi ++ fr) (some (.int z)) (mW G q yp ye yg bPo bTb wSh wTe wNx bOs bOn yop bSo bNu ytr yiw wMa wPr bTp yln ypl yfa wLi bSi yhp yhe yhg wHs yhi ++ fr) := by
  refine Ct.of (by decide +kernel) (Nat.le_of_ble_eq_true rfl) trivial ?_
  intro p e s m args below meth c Q A ls F hw hA hE hl
  have hx := F.x
  have hb := F.b
  unfold f_X5_around at h
  obtain ⟨H, hH⟩ : ∃ H, H = s.heap := ⟨_, rfl⟩
  obtain ⟨locs, hlo⟩ : ∃ locs : List Loc, locs = [] := ⟨_, rfl⟩
  rw [← hH, ← hlo] at hw ⊢
  have hl : lv_has ls 5 [(0, .ref (q 0)), (1, .int v1), (2, .int v2)] := hl
  refine lv_aload_n hx hb dX5_around_0 rfl (lv_at hl 0 rfl) ?_
  refine lv_iload_n hx hb dX5_around_1 rfl (lv_at hl 1 rfl) ?_
  obtain ⟨z1, hz1, h⟩ := stB h
  refine ctV (av := [.int v1]) (st0 := ([] : List Value)) (st1 := ([.int z1] : List Value)) F hw hA (k_X5_isClass hz1) kl_5_114 kd_X5_isClass rfl ⟨by decide, by decide⟩ 0 rfl rfl hl.1 rfl (Nat.le_of_ble_eq_true rfl) dX5_around_2 rfl (fun H locs hw => ?_)
  refine lv_if_eq (tgt := 18) hx hb dX5_around_5 (by decide) (fun c2 => ?_) (fun c2 => ?_)
  · replace h := stT c2 h
    refine lv_iconst (v := -1) hx hb dX5_around_18 (by decide) ?_
    obtain rfl := Option.some.inj h
    exact hE H locs _ ls hw dX5_around_19
  · replace h := stF c2 h
    refine lv_iload_n hx hb dX5_around_8 rfl (lv_at hl 2 rfl) ?_
    refine lv_i2l (v := v2.toInt64) hx hb dX5_around_9 rfl ?_
    refine lv_lconst (v := 0) hx hb dX5_around_10 (by decide) ?_
    refine lv_lconst (v := 1) hx hb dX5_around_11 (by decide) ?_
    obtain ⟨z3, hz3, h⟩ := stB h
    refine ctS (av := [.long v2.toInt64, .long 0, .long 1]) (st0 := ([] : List Value)) (st1 := ([.int z3] : List Value)) F hw hA (k_X5_in hz3) kl_5_90 kd_X5_in rfl ⟨by decide, by decide⟩ hl.1 rfl (Nat.le_of_ble_eq_true rfl) dX5_around_12 rfl (fun H locs hw => ?_)
    refine lv_if_ne (tgt := 20) hx hb dX5_around_15 (by decide) (fun c4 => ?_) (fun c4 => ?_)
    · replace h := stF c4 h
      refine lv_iconst (v := 0) hx hb dX5_around_20 (by decide) ?_
      refine lv_istore_n (lv' := [(3, .int 0), (0, .ref (q 0)), (1, .int v1), (2, .int v2)]) hx hb dX5_around_21 rfl hl (by decide) rfl (fun ls hl => ?_)
      refine lv_iconst (v := 0) hx hb dX5_around_22 (by decide) ?_
      refine lv_istore (lv' := [(4, .int 0), (3, .int 0), (0, .ref (q 0)), (1, .int v1), (2, .int v2)]) hx hb dX5_around_23 hl (by decide) rfl (fun ls hl => ?_)
      exact w_X5_around_L25 F hA  FU _ _ z h hE H locs ls hw (lv_sub hl [2, 3, 4, 1, 0] rfl)
    · replace h := stT c4 h
      refine lv_iconst (v := -1) hx hb dX5_around_18 (by decide) ?_
      obtain rfl := Option.some.inj h
      exact hE H locs _ ls hw dX5_around_19
end
theorem dX5_raisedModulo_0 : decode cX5_raisedModulo 0 = .ok (.iconst 1, 1) := by decide +kernel
theorem dX5_raisedModulo_1 : decode cX5_raisedModulo 1 = .ok (.istore_n 2, 1) := by decide +kernel
theorem dX5_raisedModulo_2 : decode cX5_raisedModulo 2 = .ok (.iconst 0, 1) := by decide +kernel
theorem dX5_raisedModulo_3 : decode cX5_raisedModulo 3 = .ok (.istore_n 3, 1) := by decide +kernel
theorem dX5_raisedModulo_4 : decode cX5_raisedModulo 4 = .ok (.iload_n 3, 1) := by decide +kernel
theorem dX5_raisedModulo_5 : decode cX5_raisedModulo 5 = .ok (.aload_n 0, 1) := by decide +kernel
theorem dX5_raisedModulo_6 : decode cX5_raisedModulo 6 = .ok (.getfield 66, 3) := by decide +kernel
theorem dX5_raisedModulo_9 : decode cX5_raisedModulo 9 = .ok (.if_icmp .ge 18, 3) := by decide +kernel
theorem dX5_raisedModulo_12 : decode cX5_raisedModulo 12 = .ok (.iload_n 2, 1) := by decide +kernel
theorem dX5_raisedModulo_13 : decode cX5_raisedModulo 13 = .ok (.iload_n 1, 1) := by decide +kernel
theorem dX5_raisedModulo_14 : decode cX5_raisedModulo 14 = .ok (.imul, 1) := by decide +kernel
theorem dX5_raisedModulo_15 : decode cX5_raisedModulo 15 = .ok (.aload_n 0, 1) := by decide +kernel
theorem dX5_raisedModulo_16 : decode cX5_raisedModulo 16 = .ok (.getfield 62, 3) := by decide +kernel
theorem dX5_raisedModulo_19 : decode cX5_raisedModulo 19 = .ok (.irem, 1) := by decide +kernel
theorem dX5_raisedModulo_20 : decode cX5_raisedModulo 20 = .ok (.istore_n 2, 1) := by decide +kernel
theorem dX5_raisedModulo_21 : decode cX5_raisedModulo 21 = .ok (.iinc 3 1, 3) := by decide +kernel
theorem dX5_raisedModulo_24 : decode cX5_raisedModulo 24 = .ok (.goto (-20), 3) := by decide +kernel
theorem dX5_raisedModulo_27 : decode cX5_raisedModulo 27 = .ok (.iload_n 2, 1) := by decide +kernel
theorem dX5_raisedModulo_28 : decode cX5_raisedModulo 28 = .ok (.ireturn, 1) := by decide +kernel
section
variable {p : Program} {l : Launch} {e : Env} {s : State} {m : MethodId} {args : Array Value} {below : List Frame} {meth : Method} {c : Code} {Q : State → Prop} {G : GG} {A : Nat → Prop} {q : Nat → Nat} {fr : va_W}
def f_X5_raisedModulo_L4 (yp : Int32) (ye : Int32) (v1 : Int32) : Nat → Int32 → Int32 → Option (Int32)
  | 0, _, _ => none
  | fu + 1, v2, v3 =>
    if ye ≤ v3 then
    some v2
    else
    if yp = 0 then none else
    f_X5_raisedModulo_L4 yp ye v1 fu ((v2 * v1) - (v2 * v1) / yp * yp) (v3 + 1)
set_option maxHeartbeats 4000000 in
set_option maxRecDepth 100000 in
theorem w_X5_raisedModulo_L4  {yp : Int32} {ye : Int32} {yg : Int32} {bPo : Nat → Int32} {bTb : Nat → Int32} {wSh : Nat → Int64} {wTe : Nat → Int64} {wNx : Nat → Int64} {bOs : Nat → Int32} {bOn : Nat → Int32} {yop : Int32} {bSo : Nat → Int32} {bNu : Nat → Int32} {ytr : Int32} {yiw : Int32} {wMa : Nat → Int64} {wPr : Nat → Int64} {bTp : Nat → Int32} {yln : Int32} {ypl : Int32} {yfa : Int32} {wLi : Nat → Int64} {bSi : Nat → Int32} {yhp : Int32} {yhe : Int32} {yhg : Int32} {wHs : Nat → Int64} {yhi : Int32} {v1 : Int32}  (F : Fx p s m args meth c cX5_raisedModulo 4 RX5 (some .int)) (hA : ∀ q, s.heap.size ≤ q → A q)   : ∀ (fu : Nat) (v2 : Int32) (v3 : Int32) (z : Int32), f_X5_raisedModulo_L4 yp ye v1 fu v2 v3 = some z → Ends p l e (rmOf 0 0) s m args below meth c Q cX5_raisedModulo G A (some .int) (some (.int z)) (mW G q yp ye yg bPo bTb wSh wTe wNx bOs bOn yop bSo bNu ytr yiw wMa wPr bTp yln ypl yfa wLi bSi yhp yhe yhg wHs yhi ++ fr) → ∀ (H : Heap) (locs : List Loc) (ls : Array Slot), Wd G s A (mW G q yp ye yg bPo bTb wSh wTe wNx bOs bOn yop bSo bNu ytr yiw wMa wPr bTp yln ypl yfa wLi bSi yhp yhe yhg wHs yhi ++ fr) H locs → lv_has ls 4 [(0, .ref (q 0)), (1, .int v1), (2, .int v2), (3, .int v3)] → W p l e (rmOf 0 0) s m args below meth c H locs 0 0 Q (F0 m 4 ls []) := by
  have hx := F.x
  have hb := F.b
  intro fu
  induction fu with
  | zero =>
    intro v2 v3 z h
    cases (h : none = some z)
  | succ fu ih =>
    intro v2 v3 z h hE H locs ls hw hl
    rw [f_X5_raisedModulo_L4] at h
    refine lv_iload_n hx hb dX5_raisedModulo_4 rfl (lv_at hl 3 rfl) ?_
    refine lv_aload_n hx hb dX5_raisedModulo_5 rfl (lv_at hl 0 rfl) ?_
    refine gf_5_66 F hw dX5_raisedModulo_6 ?_
    refine lv_icmp_ge (tgt := 27) hx hb dX5_raisedModulo_9 (by decide) (fun c1 => ?_) (fun c1 => ?_)
    · replace h := stT c1 h
      refine lv_iload_n hx hb dX5_raisedModulo_27 rfl (lv_at hl 2 rfl) ?_
      obtain rfl := Option.some.inj h
      exact hE H locs _ ls hw dX5_raisedModulo_28
    · replace h := stF c1 h
      refine lv_iload_n hx hb dX5_raisedModulo_12 rfl (lv_at hl 2 rfl) ?_
      refine lv_iload_n hx hb dX5_raisedModulo_13 rfl (lv_at hl 1 rfl) ?_
      refine lv_imul hx hb dX5_raisedModulo_14 ?_
      refine lv_aload_n hx hb dX5_raisedModulo_15 rfl (lv_at hl 0 rfl) ?_
      refine gf_5_62 F hw dX5_raisedModulo_16 ?_
      obtain ⟨g2, h⟩ := stD h
      refine lv_irem hx hb dX5_raisedModulo_19 g2 ?_
      refine lv_istore_n (lv' := [(2, .int ((v2 * v1) - (v2 * v1) / yp * yp)), (0, .ref (q 0)), (1, .int v1), (3, .int v3)]) hx hb dX5_raisedModulo_20 rfl hl (by decide) rfl (fun ls hl => ?_)
      refine lv_iinc (v := (v3 + 1)) (lv' := [(3, .int (v3 + 1)), (2, .int ((v2 * v1) - (v2 * v1) / yp * yp)), (0, .ref (q 0)), (1, .int v1)]) hx hb dX5_raisedModulo_21 hl (k := 3) rfl rfl (by decide) rfl (fun ls hl => ?_)
      refine lv_goto (tgt := 4) hx hb dX5_raisedModulo_24 (by decide) ?_
      exact ih _ _ z h hE H locs ls hw (lv_sub hl [2, 3, 1, 0] rfl)
def f_X5_raisedModulo (yp : Int32) (ye : Int32) (v1 : Int32) : Option (Int32) :=
  f_X5_raisedModulo_L4 yp ye v1 FU 1 0
set_option maxHeartbeats 4000000 in
set_option maxRecDepth 100000 in
theorem k_X5_raisedModulo {l : Launch} {G : GG} {q : Nat → Nat} {fr : va_W}  {yp : Int32} {ye : Int32} {yg : Int32} {bPo : Nat → Int32} {bTb : Nat → Int32} {wSh : Nat → Int64} {wTe : Nat → Int64} {wNx : Nat → Int64} {bOs : Nat → Int32} {bOn : Nat → Int32} {yop : Int32} {bSo : Nat → Int32} {bNu : Nat → Int32} {ytr : Int32} {yiw : Int32} {wMa : Nat → Int64} {wPr : Nat → Int64} {bTp : Nat → Int32} {yln : Int32} {ypl : Int32} {yfa : Int32} {wLi : Nat → Int64} {bSi : Nat → Int32} {yhp : Int32} {yhe : Int32} {yhg : Int32} {wHs : Nat → Int64} {yhi : Int32} {v1 : Int32} {z : Int32}  (h : f_X5_raisedModulo yp ye v1 = some z) : Ct l G yX5_raisedModulo cX5_raisedModulo 4 (some .int) 0 0 [.ref (q 0), .int v1] (mW G q yp ye yg bPo bTb wSh wTe wNx bOs bOn yop bSo bNu ytr yiw wMa wPr bTp yln ypl yfa wLi bSi yhp yhe yhg wHs yhi ++ fr) (some (.int z)) (mW G q yp ye yg bPo bTb wSh wTe wNx bOs bOn yop bSo bNu ytr yiw wMa wPr bTp yln ypl yfa wLi bSi yhp yhe yhg wHs yhi ++ fr) := by
  refine Ct.of (by decide +kernel) (Nat.le_of_ble_eq_true rfl) trivial ?_
  intro p e s m args below meth c Q A ls F hw hA hE hl
  have hx := F.x
  have hb := F.b
  unfold f_X5_raisedModulo at h
  obtain ⟨H, hH⟩ : ∃ H, H = s.heap := ⟨_, rfl⟩
  obtain ⟨locs, hlo⟩ : ∃ locs : List Loc, locs = [] := ⟨_, rfl⟩
  rw [← hH, ← hlo] at hw ⊢
  have hl : lv_has ls 4 [(0, .ref (q 0)), (1, .int v1)] := hl
  refine lv_iconst (v := 1) hx hb dX5_raisedModulo_0 (by decide) ?_
  refine lv_istore_n (lv' := [(2, .int 1), (0, .ref (q 0)), (1, .int v1)]) hx hb dX5_raisedModulo_1 rfl hl (by decide) rfl (fun ls hl => ?_)
  refine lv_iconst (v := 0) hx hb dX5_raisedModulo_2 (by decide) ?_
  refine lv_istore_n (lv' := [(3, .int 0), (2, .int 1), (0, .ref (q 0)), (1, .int v1)]) hx hb dX5_raisedModulo_3 rfl hl (by decide) rfl (fun ls hl => ?_)
  exact w_X5_raisedModulo_L4 F hA  FU _ _ z h hE H locs ls hw (lv_sub hl [2, 3, 1, 0] rfl)
end
theorem dX5_solved_0 : decode cX5_solved 0 = .ok (.iload_n 1, 1) := by decide +kernel
theorem dX5_solved_1 : decode cX5_solved 1 = .ok (.i2l, 1) := by decide +kernel
theorem dX5_solved_2 : decode cX5_solved 2 = .ok (.lconst 0, 1) := by decide +kernel
theorem dX5_solved_3 : decode cX5_solved 3 = .ok (.aload_n 0, 1) := by decide +kernel
theorem dX5_solved_4 : decode cX5_solved 4 = .ok (.getfield 62, 3) := by decide +kernel
theorem dX5_solved_7 : decode cX5_solved 7 = .ok (.iconst 1, 1) := by decide +kernel
theorem dX5_solved_8 : decode cX5_solved 8 = .ok (.isub, 1) := by decide +kernel
theorem dX5_solved_9 : decode cX5_solved 9 = .ok (.i2l, 1) := by decide +kernel
theorem dX5_solved_10 : decode cX5_solved 10 = .ok (.invokestatic 90, 3) := by decide +kernel
theorem dX5_solved_13 : decode cX5_solved 13 = .ok (.ifCond .eq 35, 3) := by decide +kernel
theorem dX5_solved_16 : decode cX5_solved 16 = .ok (.iload_n 2, 1) := by decide +kernel
theorem dX5_solved_17 : decode cX5_solved 17 = .ok (.i2l, 1) := by decide +kernel
theorem dX5_solved_18 : decode cX5_solved 18 = .ok (.lconst 0, 1) := by decide +kernel
theorem dX5_solved_19 : decode cX5_solved 19 = .ok (.aload_n 0, 1) := by decide +kernel
theorem dX5_solved_20 : decode cX5_solved 20 = .ok (.getfield 62, 3) := by decide +kernel
theorem dX5_solved_23 : decode cX5_solved 23 = .ok (.iconst 1, 1) := by decide +kernel
theorem dX5_solved_24 : decode cX5_solved 24 = .ok (.isub, 1) := by decide +kernel
theorem dX5_solved_25 : decode cX5_solved 25 = .ok (.i2l, 1) := by decide +kernel
theorem dX5_solved_26 : decode cX5_solved 26 = .ok (.invokestatic 90, 3) := by decide +kernel
theorem dX5_solved_29 : decode cX5_solved 29 = .ok (.ifCond .eq 19, 3) := by decide +kernel
theorem dX5_solved_32 : decode cX5_solved 32 = .ok (.iload_n 3, 1) := by decide +kernel
theorem dX5_solved_33 : decode cX5_solved 33 = .ok (.i2l, 1) := by decide +kernel
theorem dX5_solved_34 : decode cX5_solved 34 = .ok (.lconst 0, 1) := by decide +kernel
theorem dX5_solved_35 : decode cX5_solved 35 = .ok (.aload_n 0, 1) := by decide +kernel
theorem dX5_solved_36 : decode cX5_solved 36 = .ok (.getfield 62, 3) := by decide +kernel
theorem dX5_solved_39 : decode cX5_solved 39 = .ok (.iconst 1, 1) := by decide +kernel
theorem dX5_solved_40 : decode cX5_solved 40 = .ok (.isub, 1) := by decide +kernel
theorem dX5_solved_41 : decode cX5_solved 41 = .ok (.i2l, 1) := by decide +kernel
theorem dX5_solved_42 : decode cX5_solved 42 = .ok (.invokestatic 90, 3) := by decide +kernel
theorem dX5_solved_45 : decode cX5_solved 45 = .ok (.ifCond .ne 5, 3) := by decide +kernel
theorem dX5_solved_48 : decode cX5_solved 48 = .ok (.iconst (-1), 1) := by decide +kernel
theorem dX5_solved_49 : decode cX5_solved 49 = .ok (.ireturn, 1) := by decide +kernel
theorem dX5_solved_50 : decode cX5_solved 50 = .ok (.iconst 0, 1) := by decide +kernel
theorem dX5_solved_51 : decode cX5_solved 51 = .ok (.istore 4, 2) := by decide +kernel
theorem dX5_solved_53 : decode cX5_solved 53 = .ok (.iconst 0, 1) := by decide +kernel
theorem dX5_solved_54 : decode cX5_solved 54 = .ok (.istore 5, 2) := by decide +kernel
theorem dX5_solved_56 : decode cX5_solved 56 = .ok (.iload 5, 2) := by decide +kernel
theorem dX5_solved_58 : decode cX5_solved 58 = .ok (.aload_n 0, 1) := by decide +kernel
theorem dX5_solved_59 : decode cX5_solved 59 = .ok (.getfield 62, 3) := by decide +kernel
theorem dX5_solved_62 : decode cX5_solved 62 = .ok (.if_icmp .ge 66, 3) := by decide +kernel
theorem dX5_solved_65 : decode cX5_solved 65 = .ok (.iconst 0, 1) := by decide +kernel
theorem dX5_solved_66 : decode cX5_solved 66 = .ok (.istore 6, 2) := by decide +kernel
theorem dX5_solved_68 : decode cX5_solved 68 = .ok (.iload 6, 2) := by decide +kernel
theorem dX5_solved_70 : decode cX5_solved 70 = .ok (.aload_n 0, 1) := by decide +kernel
theorem dX5_solved_71 : decode cX5_solved 71 = .ok (.getfield 62, 3) := by decide +kernel
theorem dX5_solved_74 : decode cX5_solved 74 = .ok (.if_icmp .ge 48, 3) := by decide +kernel
theorem dX5_solved_77 : decode cX5_solved 77 = .ok (.iload 4, 2) := by decide +kernel
theorem dX5_solved_79 : decode cX5_solved 79 = .ok (.iload_n 1, 1) := by decide +kernel
theorem dX5_solved_80 : decode cX5_solved 80 = .ok (.aload_n 0, 1) := by decide +kernel
theorem dX5_solved_81 : decode cX5_solved 81 = .ok (.iload 5, 2) := by decide +kernel
theorem dX5_solved_83 : decode cX5_solved 83 = .ok (.invokevirtual 127, 3) := by decide +kernel
theorem dX5_solved_86 : decode cX5_solved 86 = .ok (.imul, 1) := by decide +kernel
theorem dX5_solved_87 : decode cX5_solved 87 = .ok (.iload_n 2, 1) := by decide +kernel
theorem dX5_solved_88 : decode cX5_solved 88 = .ok (.aload_n 0, 1) := by decide +kernel
theorem dX5_solved_89 : decode cX5_solved 89 = .ok (.iload 6, 2) := by decide +kernel
theorem dX5_solved_91 : decode cX5_solved 91 = .ok (.invokevirtual 127, 3) := by decide +kernel
theorem dX5_solved_94 : decode cX5_solved 94 = .ok (.imul, 1) := by decide +kernel
theorem dX5_solved_95 : decode cX5_solved 95 = .ok (.iadd, 1) := by decide +kernel
theorem dX5_solved_96 : decode cX5_solved 96 = .ok (.aload_n 0, 1) := by decide +kernel
theorem dX5_solved_97 : decode cX5_solved 97 = .ok (.getfield 62, 3) := by decide +kernel
theorem dX5_solved_100 : decode cX5_solved 100 = .ok (.irem, 1) := by decide +kernel
theorem dX5_solved_101 : decode cX5_solved 101 = .ok (.iload_n 3, 1) := by decide +kernel
theorem dX5_solved_102 : decode cX5_solved 102 = .ok (.if_icmp .ne 7, 3) := by decide +kernel
theorem dX5_solved_105 : decode cX5_solved 105 = .ok (.iconst 1, 1) := by decide +kernel
theorem dX5_solved_106 : decode cX5_solved 106 = .ok (.goto 4, 3) := by decide +kernel
theorem dX5_solved_109 : decode cX5_solved 109 = .ok (.iconst 0, 1) := by decide +kernel
theorem dX5_solved_110 : decode cX5_solved 110 = .ok (.invokestatic 103, 3) := by decide +kernel
theorem dX5_solved_113 : decode cX5_solved 113 = .ok (.iadd, 1) := by decide +kernel
theorem dX5_solved_114 : decode cX5_solved 114 = .ok (.istore 4, 2) := by decide +kernel
theorem dX5_solved_116 : decode cX5_solved 116 = .ok (.iinc 6 1, 3) := by decide +kernel
theorem dX5_solved_119 : decode cX5_solved 119 = .ok (.goto (-51), 3) := by decide +kernel
theorem dX5_solved_122 : decode cX5_solved 122 = .ok (.iinc 5 1, 3) := by decide +kernel
theorem dX5_solved_125 : decode cX5_solved 125 = .ok (.goto (-69), 3) := by decide +kernel
theorem dX5_solved_128 : decode cX5_solved 128 = .ok (.iload 4, 2) := by decide +kernel
theorem dX5_solved_130 : decode cX5_solved 130 = .ok (.ireturn, 1) := by decide +kernel
section
variable {p : Program} {l : Launch} {e : Env} {s : State} {m : MethodId} {args : Array Value} {below : List Frame} {meth : Method} {c : Code} {Q : State → Prop} {G : GG} {A : Nat → Prop} {q : Nat → Nat} {fr : va_W}
def f_X5_solved_L68 (yp : Int32) (ye : Int32) (v1 : Int32) (v2 : Int32) (v3 : Int32) (KK : Int32 → Int32 → Option (Int32)) : Nat → Int32 → Int32 → Int32 → Option (Int32)
  | 0, _, _, _ => none
  | fu + 1, v4, v5, v6 =>
    if yp ≤ v6 then
    KK v4 (v5 + 1)
    else
    (f_X5_raisedModulo yp ye v5).bind fun z2 =>
    (f_X5_raisedModulo yp ye v6).bind fun z3 =>
    if yp = 0 then none else
    if (((v1 * z2) + (v2 * z3)) - ((v1 * z2) + (v2 * z3)) / yp * yp) = v3 then
    (f_X5_bit 1).bind fun z7 =>
    f_X5_solved_L68 yp ye v1 v2 v3 KK fu (v4 + z7) v5 (v6 + 1)
    else
    (f_X5_bit 0).bind fun z6 =>
    f_X5_solved_L68 yp ye v1 v2 v3 KK fu (v4 + z6) v5 (v6 + 1)
set_option maxHeartbeats 4000000 in
set_option maxRecDepth 100000 in
theorem w_X5_solved_L68  {yp : Int32} {ye : Int32} {yg : Int32} {bPo : Nat → Int32} {bTb : Nat → Int32} {wSh : Nat → Int64} {wTe : Nat → Int64} {wNx : Nat → Int64} {bOs : Nat → Int32} {bOn : Nat → Int32} {yop : Int32} {bSo : Nat → Int32} {bNu : Nat → Int32} {ytr : Int32} {yiw : Int32} {wMa : Nat → Int64} {wPr : Nat → Int64} {bTp : Nat → Int32} {yln : Int32} {ypl : Int32} {yfa : Int32} {wLi : Nat → Int64} {bSi : Nat → Int32} {yhp : Int32} {yhe : Int32} {yhg : Int32} {wHs : Nat → Int64} {yhi : Int32} {v1 : Int32} {v2 : Int32} {v3 : Int32} {KK : Int32 → Int32 → Option (Int32)} (F : Fx p s m args meth c cX5_solved 7 RX5 (some .int)) (hA : ∀ q, s.heap.size ≤ q → A q)  (hK : ∀ (v4 : Int32) (v5 : Int32) (z : Int32), KK v4 v5 = some z → Ends p l e (rmOf 1 25) s m args below meth c Q cX5_solved G A (some .int) (some (.int z)) (mW G q yp ye yg bPo bTb wSh wTe wNx bOs bOn yop bSo bNu ytr yiw wMa wPr bTp yln ypl yfa wLi bSi yhp yhe yhg wHs yhi ++ fr) → ∀ (H : Heap) (locs : List Loc) (ls : Array Slot), Wd G s A (mW G q yp ye yg bPo bTb wSh wTe wNx bOs bOn yop bSo bNu ytr yiw wMa wPr bTp yln ypl yfa wLi bSi yhp yhe yhg wHs yhi ++ fr) H locs → lv_has ls 7 [(0, .ref (q 0)), (1, .int v1), (2, .int v2), (3, .int v3), (4, .int v4), (5, .int v5)] → W p l e (rmOf 1 25) s m args below meth c H locs 0 0 Q (F0 m 56 ls [])) : ∀ (fu : Nat) (v4 : Int32) (v5 : Int32) (v6 : Int32) (z : Int32), f_X5_solved_L68 yp ye v1 v2 v3 KK fu v4 v5 v6 = some z → Ends p l e (rmOf 1 25) s m args below meth c Q cX5_solved G A (some .int) (some (.int z)) (mW G q yp ye yg bPo bTb wSh wTe wNx bOs bOn yop bSo bNu ytr yiw wMa wPr bTp yln ypl yfa wLi bSi yhp yhe yhg wHs yhi ++ fr) → ∀ (H : Heap) (locs : List Loc) (ls : Array Slot), Wd G s A (mW G q yp ye yg bPo bTb wSh wTe wNx bOs bOn yop bSo bNu ytr yiw wMa wPr bTp yln ypl yfa wLi bSi yhp yhe yhg wHs yhi ++ fr) H locs → lv_has ls 7 [(0, .ref (q 0)), (1, .int v1), (2, .int v2), (3, .int v3), (4, .int v4), (5, .int v5), (6, .int v6)] → W p l e (rmOf 1 25) s m args below meth c H locs 0 0 Q (F0 m 68 ls []) := by
  have hx := F.x
  have hb := F.b
  intro fu
  induction fu with
  | zero =>
    intro v4 v5 v6 z h
    cases (h : none = some z)
  | succ fu ih =>
    intro v4 v5 v6 z h hE H locs ls hw hl
    rw [f_X5_solved_L68] at h
    refine lv_iload hx hb dX5_solved_68 (lv_at hl 6 rfl) ?_
    refine lv_aload_n hx hb dX5_solved_70 rfl (lv_at hl 0 rfl) ?_
    refine gf_5_62 F hw dX5_solved_71 ?_
    refine lv_icmp_ge (tgt := 122) hx hb dX5_solved_74 (by decide) (fun c1 => ?_) (fun c1 => ?_)
    · replace h := stT c1 h
      refine lv_iinc (v := (v5 + 1)) (lv' := [(5, .int (v5 + 1)), (0, .ref (q 0)), (1, .int v1), (2, .int v2), (3, .int v3), (4, .int v4), (6, .int v6)]) hx hb dX5_solved_122 hl (k := 5) rfl rfl (by decide) rfl (fun ls hl => ?_)
      refine lv_goto (tgt := 56) hx hb dX5_solved_125 (by decide) ?_
      exact hK _ _ z h hE H locs ls hw (lv_sub hl [1, 2, 3, 4, 5, 0] rfl)
    · replace h := stF c1 h
      refine lv_iload hx hb dX5_solved_77 (lv_at hl 4 rfl) ?_
      refine lv_iload_n hx hb dX5_solved_79 rfl (lv_at hl 1 rfl) ?_
      refine lv_aload_n hx hb dX5_solved_80 rfl (lv_at hl 0 rfl) ?_
      refine lv_iload hx hb dX5_solved_81 (lv_at hl 5 rfl) ?_
      obtain ⟨z2, hz2, h⟩ := stB h
      refine ctV (av := [.int v5]) (st0 := ([.int v1, .int v4] : List Value)) (st1 := ([.int z2, .int v1, .int v4] : List Value)) F hw hA (k_X5_raisedModulo hz2) kl_5_127 kd_X5_raisedModulo rfl ⟨by decide, by decide⟩ 0 rfl rfl hl.1 rfl (Nat.le_of_ble_eq_true rfl) dX5_solved_83 rfl (fun H locs hw => ?_)
      refine lv_imul hx hb dX5_solved_86 ?_
      refine lv_iload_n hx hb dX5_solved_87 rfl (lv_at hl 2 rfl) ?_
      refine lv_aload_n hx hb dX5_solved_88 rfl (lv_at hl 0 rfl) ?_
      refine lv_iload hx hb dX5_solved_89 (lv_at hl 6 rfl) ?_
      obtain ⟨z3, hz3, h⟩ := stB h
      refine ctV (av := [.int v6]) (st0 := ([.int v2, .int (v1 * z2), .int v4] : List Value)) (st1 := ([.int z3, .int v2, .int (v1 * z2), .int v4] : List Value)) F hw hA (k_X5_raisedModulo hz3) kl_5_127 kd_X5_raisedModulo rfl ⟨by decide, by decide⟩ 0 rfl rfl hl.1 rfl (Nat.le_of_ble_eq_true rfl) dX5_solved_91 rfl (fun H locs hw => ?_)
      refine lv_imul hx hb dX5_solved_94 ?_
      refine lv_iadd hx hb dX5_solved_95 ?_
      refine lv_aload_n hx hb dX5_solved_96 rfl (lv_at hl 0 rfl) ?_
      refine gf_5_62 F hw dX5_solved_97 ?_
      obtain ⟨g4, h⟩ := stD h
      refine lv_irem hx hb dX5_solved_100 g4 ?_
      refine lv_iload_n hx hb dX5_solved_101 rfl (lv_at hl 3 rfl) ?_
      refine lv_icmp_ne (tgt := 109) hx hb dX5_solved_102 (by decide) (fun c5 => ?_) (fun c5 => ?_)
      · replace h := stF c5 h
        refine lv_iconst (v := 0) hx hb dX5_solved_109 (by decide) ?_
        obtain ⟨z6, hz6, h⟩ := stB h
        refine ctS (av := [.int 0]) (st0 := ([.int v4] : List Value)) (st1 := ([.int z6, .int v4] : List Value)) F hw hA (k_X5_bit hz6) kl_5_103 kd_X5_bit rfl ⟨by decide, by decide⟩ hl.1 rfl (Nat.le_of_ble_eq_true rfl) dX5_solved_110 rfl (fun H locs hw => ?_)
        refine lv_iadd hx hb dX5_solved_113 ?_
        refine lv_istore (lv' := [(4, .int (v4 + z6)), (0, .ref (q 0)), (1, .int v1), (2, .int v2), (3, .int v3), (5, .int v5), (6, .int v6)]) hx hb dX5_solved_114 hl (by decide) rfl (fun ls hl => ?_)
        refine lv_iinc (v := (v6 + 1)) (lv' := [(6, .int (v6 + 1)), (4, .int (v4 + z6)), (0, .ref (q 0)), (1, .int v1), (2, .int v2), (3, .int v3), (5, .int v5)]) hx hb dX5_solved_116 hl (k := 6) rfl rfl (by decide) rfl (fun ls hl => ?_)
        refine lv_goto (tgt := 68) hx hb dX5_solved_119 (by decide) ?_
        exact ih _ _ _ z h hE H locs ls hw (lv_sub hl [2, 3, 4, 5, 1, 6, 0] rfl)
      · replace h := stT c5 h
        refine lv_iconst (v := 1) hx hb dX5_solved_105 (by decide) ?_
        refine lv_goto (tgt := 110) hx hb dX5_solved_106 (by decide) ?_
        obtain ⟨z7, hz7, h⟩ := stB h
        refine ctS (av := [.int 1]) (st0 := ([.int v4] : List Value)) (st1 := ([.int z7, .int v4] : List Value)) F hw hA (k_X5_bit hz7) kl_5_103 kd_X5_bit rfl ⟨by decide, by decide⟩ hl.1 rfl (Nat.le_of_ble_eq_true rfl) dX5_solved_110 rfl (fun H locs hw => ?_)
        refine lv_iadd hx hb dX5_solved_113 ?_
        refine lv_istore (lv' := [(4, .int (v4 + z7)), (0, .ref (q 0)), (1, .int v1), (2, .int v2), (3, .int v3), (5, .int v5), (6, .int v6)]) hx hb dX5_solved_114 hl (by decide) rfl (fun ls hl => ?_)
        refine lv_iinc (v := (v6 + 1)) (lv' := [(6, .int (v6 + 1)), (4, .int (v4 + z7)), (0, .ref (q 0)), (1, .int v1), (2, .int v2), (3, .int v3), (5, .int v5)]) hx hb dX5_solved_116 hl (k := 6) rfl rfl (by decide) rfl (fun ls hl => ?_)
        refine lv_goto (tgt := 68) hx hb dX5_solved_119 (by decide) ?_
        exact ih _ _ _ z h hE H locs ls hw (lv_sub hl [2, 3, 4, 5, 1, 6, 0] rfl)
def f_X5_solved_L56 (yp : Int32) (ye : Int32) (v1 : Int32) (v2 : Int32) (v3 : Int32) : Nat → Int32 → Int32 → Option (Int32)
  | 0, _, _ => none
  | fu + 1, v4, v5 =>
    if yp ≤ v5 then
    some v4
    else
    f_X5_solved_L68 yp ye v1 v2 v3 (fun w0 w1 => f_X5_solved_L56 yp ye v1 v2 v3 fu w0 w1) FU v4 v5 0
set_option maxHeartbeats 4000000 in
set_option maxRecDepth 100000 in
theorem w_X5_solved_L56  {yp : Int32} {ye : Int32} {yg : Int32} {bPo : Nat → Int32} {bTb : Nat → Int32} {wSh : Nat → Int64} {wTe : Nat → Int64} {wNx : Nat → Int64} {bOs : Nat → Int32} {bOn : Nat → Int32} {yop : Int32} {bSo : Nat → Int32} {bNu : Nat → Int32} {ytr : Int32} {yiw : Int32} {wMa : Nat → Int64} {wPr : Nat → Int64} {bTp : Nat → Int32} {yln : Int32} {ypl : Int32} {yfa : Int32} {wLi : Nat → Int64} {bSi : Nat → Int32} {yhp : Int32} {yhe : Int32} {yhg : Int32} {wHs : Nat → Int64} {yhi : Int32} {v1 : Int32} {v2 : Int32} {v3 : Int32}  (F : Fx p s m args meth c cX5_solved 7 RX5 (some .int)) (hA : ∀ q, s.heap.size ≤ q → A q)   : ∀ (fu : Nat) (v4 : Int32) (v5 : Int32) (z : Int32), f_X5_solved_L56 yp ye v1 v2 v3 fu v4 v5 = some z → Ends p l e (rmOf 1 25) s m args below meth c Q cX5_solved G A (some .int) (some (.int z)) (mW G q yp ye yg bPo bTb wSh wTe wNx bOs bOn yop bSo bNu ytr yiw wMa wPr bTp yln ypl yfa wLi bSi yhp yhe yhg wHs yhi ++ fr) → ∀ (H : Heap) (locs : List Loc) (ls : Array Slot), Wd G s A (mW G q yp ye yg bPo bTb wSh wTe wNx bOs bOn yop bSo bNu ytr yiw wMa wPr bTp yln ypl yfa wLi bSi yhp yhe yhg wHs yhi ++ fr) H locs → lv_has ls 7 [(0, .ref (q 0)), (1, .int v1), (2, .int v2), (3, .int v3), (4, .int v4), (5, .int v5)] → W p l e (rmOf 1 25) s m args below meth c H locs 0 0 Q (F0 m 56 ls []) := by
  have hx := F.x
  have hb := F.b
  intro fu
  induction fu with
  | zero =>
    intro v4 v5 z h
    cases (h : none = some z)
  | succ fu ih =>
    intro v4 v5 z h hE H locs ls hw hl
    rw [f_X5_solved_L56] at h
    refine lv_iload hx hb dX5_solved_56 (lv_at hl 5 rfl) ?_
    refine lv_aload_n hx hb dX5_solved_58 rfl (lv_at hl 0 rfl) ?_
    refine gf_5_62 F hw dX5_solved_59 ?_
    refine lv_icmp_ge (tgt := 128) hx hb dX5_solved_62 (by decide) (fun c1 => ?_) (fun c1 => ?_)
    · replace h := stT c1 h
      refine lv_iload hx hb dX5_solved_128 (lv_at hl 4 rfl) ?_
      obtain rfl := Option.some.inj h
      exact hE H locs _ ls hw dX5_solved_130
    · replace h := stF c1 h
      refine lv_iconst (v := 0) hx hb dX5_solved_65 (by decide) ?_
      refine lv_istore (lv' := [(6, .int 0), (0, .ref (q 0)), (1, .int v1), (2, .int v2), (3, .int v3), (4, .int v4), (5, .int v5)]) hx hb dX5_solved_66 hl (by decide) rfl (fun ls hl => ?_)
      exact w_X5_solved_L68 F hA  (fun w0 w1 z h hE H locs ls hw hl => ih w0 w1 z h hE H locs ls hw hl) FU _ _ _ z h hE H locs ls hw (lv_sub hl [1, 2, 3, 4, 5, 6, 0] rfl)
def f_X5_solved (yp : Int32) (ye : Int32) (v1 : Int32) (v2 : Int32) (v3 : Int32) : Option (Int32) :=
  (f_X5_in v1.toInt64 0 ((yp - 1).toInt64)).bind fun z1 =>
  if z1 = 0 then
  some (-1)
  else
  (f_X5_in v2.toInt64 0 ((yp - 1).toInt64)).bind fun z3 =>
  if z3 = 0 then
  some (-1)
  else
  (f_X5_in v3.toInt64 0 ((yp - 1).toInt64)).bind fun z5 =>
  if z5 = 0 then
  some (-1)
  else
  f_X5_solved_L56 yp ye v1 v2 v3 FU 0 0
set_option maxHeartbeats 4000000 in
set_option maxRecDepth 100000 in
theorem k_X5_solved {l : Launch} {G : GG} {q : Nat → Nat} {fr : va_W}  {yp : Int32} {ye : Int32} {yg : Int32} {bPo : Nat → Int32} {bTb : Nat → Int32} {wSh : Nat → Int64} {wTe : Nat → Int64} {wNx : Nat → Int64} {bOs : Nat → Int32} {bOn : Nat → Int32} {yop : Int32} {bSo : Nat → Int32} {bNu : Nat → Int32} {ytr : Int32} {yiw : Int32} {wMa : Nat → Int64} {wPr : Nat → Int64} {bTp : Nat → Int32} {yln : Int32} {ypl : Int32} {yfa : Int32} {wLi : Nat → Int64} {bSi : Nat → Int32} {yhp : Int32} {yhe : Int32} {yhg : Int32} {wHs : Nat → Int64} {yhi : Int32} {v1 : Int32} {v2 : Int32} {v3 : Int32} {z : Int32}  (h : f_X5_solved yp ye v1 v2 v3 = some z) : Ct l G yX5_solved cX5_solved 7 (some .int) 1 25 [.ref (q 0), .int v1, .int v2, .int v3] (mW G q yp ye yg bPo bTb wSh wTe wNx bOs bOn yop bSo bNu ytr yiw wMa wPr bTp yln ypl yfa wLi bSi yhp yhe yhg wHs yhi ++ fr) (some (.int z)) (mW G q yp ye yg bPo bTb wSh wTe wNx bOs bOn yop bSo bNu ytr yiw wMa wPr bTp yln ypl yfa wLi bSi yhp yhe yhg wHs yhi ++ fr) := by
  refine Ct.of (by decide +kernel) (Nat.le_of_ble_eq_true rfl) trivial ?_
  intro p e s m args below meth c Q A ls F hw hA hE hl
  have hx := F.x
  have hb := F.b
  unfold f_X5_solved at h
  obtain ⟨H, hH⟩ : ∃ H, H = s.heap := ⟨_, rfl⟩
  obtain ⟨locs, hlo⟩ : ∃ locs : List Loc, locs = [] := ⟨_, rfl⟩
  rw [← hH, ← hlo] at hw ⊢
  have hl : lv_has ls 7 [(0, .ref (q 0)), (1, .int v1), (2, .int v2), (3, .int v3)] := hl
  refine lv_iload_n hx hb dX5_solved_0 rfl (lv_at hl 1 rfl) ?_
  refine lv_i2l (v := v1.toInt64) hx hb dX5_solved_1 rfl ?_
  refine lv_lconst (v := 0) hx hb dX5_solved_2 (by decide) ?_
  refine lv_aload_n hx hb dX5_solved_3 rfl (lv_at hl 0 rfl) ?_
  refine gf_5_62 F hw dX5_solved_4 ?_
  refine lv_iconst (v := 1) hx hb dX5_solved_7 (by decide) ?_
  refine lv_isub hx hb dX5_solved_8 ?_
  refine lv_i2l (v := (yp - 1).toInt64) hx hb dX5_solved_9 rfl ?_
  obtain ⟨z1, hz1, h⟩ := stB h
  refine ctS (av := [.long v1.toInt64, .long 0, .long ((yp - 1).toInt64)]) (st0 := ([] : List Value)) (st1 := ([.int z1] : List Value)) F hw hA (k_X5_in hz1) kl_5_90 kd_X5_in rfl ⟨by decide, by decide⟩ hl.1 rfl (Nat.le_of_ble_eq_true rfl) dX5_solved_10 rfl (fun H locs hw => ?_)
  refine lv_if_eq (tgt := 48) hx hb dX5_solved_13 (by decide) (fun c2 => ?_) (fun c2 => ?_)
  · replace h := stT c2 h
    refine lv_iconst (v := -1) hx hb dX5_solved_48 (by decide) ?_
    obtain rfl := Option.some.inj h
    exact hE H locs _ ls hw dX5_solved_49
  · replace h := stF c2 h
    refine lv_iload_n hx hb dX5_solved_16 rfl (lv_at hl 2 rfl) ?_
    refine lv_i2l (v := v2.toInt64) hx hb dX5_solved_17 rfl ?_
    refine lv_lconst (v := 0) hx hb dX5_solved_18 (by decide) ?_
    refine lv_aload_n hx hb dX5_solved_19 rfl (lv_at hl 0 rfl) ?_
    refine gf_5_62 F hw dX5_solved_20 ?_
    refine lv_iconst (v := 1) hx hb dX5_solved_23 (by decide) ?_
    refine lv_isub hx hb dX5_solved_24 ?_
    refine lv_i2l (v := (yp - 1).toInt64) hx hb dX5_solved_25 rfl ?_
    obtain ⟨z3, hz3, h⟩ := stB h
    refine ctS (av := [.long v2.toInt64, .long 0, .long ((yp - 1).toInt64)]) (st0 := ([] : List Value)) (st1 := ([.int z3] : List Value)) F hw hA (k_X5_in hz3) kl_5_90 kd_X5_in rfl ⟨by decide, by decide⟩ hl.1 rfl (Nat.le_of_ble_eq_true rfl) dX5_solved_26 rfl (fun H locs hw => ?_)
    refine lv_if_eq (tgt := 48) hx hb dX5_solved_29 (by decide) (fun c4 => ?_) (fun c4 => ?_)
    · replace h := stT c4 h
      refine lv_iconst (v := -1) hx hb dX5_solved_48 (by decide) ?_
      obtain rfl := Option.some.inj h
      exact hE H locs _ ls hw dX5_solved_49
    · replace h := stF c4 h
      refine lv_iload_n hx hb dX5_solved_32 rfl (lv_at hl 3 rfl) ?_
      refine lv_i2l (v := v3.toInt64) hx hb dX5_solved_33 rfl ?_
      refine lv_lconst (v := 0) hx hb dX5_solved_34 (by decide) ?_
      refine lv_aload_n hx hb dX5_solved_35 rfl (lv_at hl 0 rfl) ?_
      refine gf_5_62 F hw dX5_solved_36 ?_
      refine lv_iconst (v := 1) hx hb dX5_solved_39 (by decide) ?_
      refine lv_isub hx hb dX5_solved_40 ?_
      refine lv_i2l (v := (yp - 1).toInt64) hx hb dX5_solved_41 rfl ?_
      obtain ⟨z5, hz5, h⟩ := stB h
      refine ctS (av := [.long v3.toInt64, .long 0, .long ((yp - 1).toInt64)]) (st0 := ([] : List Value)) (st1 := ([.int z5] : List Value)) F hw hA (k_X5_in hz5) kl_5_90 kd_X5_in rfl ⟨by decide, by decide⟩ hl.1 rfl (Nat.le_of_ble_eq_true rfl) dX5_solved_42 rfl (fun H locs hw => ?_)
      refine lv_if_ne (tgt := 50) hx hb dX5_solved_45 (by decide) (fun c6 => ?_) (fun c6 => ?_)
      · replace h := stF c6 h
        refine lv_iconst (v := 0) hx hb dX5_solved_50 (by decide) ?_
        refine lv_istore (lv' := [(4, .int 0), (0, .ref (q 0)), (1, .int v1), (2, .int v2), (3, .int v3)]) hx hb dX5_solved_51 hl (by decide) rfl (fun ls hl => ?_)
        refine lv_iconst (v := 0) hx hb dX5_solved_53 (by decide) ?_
        refine lv_istore (lv' := [(5, .int 0), (4, .int 0), (0, .ref (q 0)), (1, .int v1), (2, .int v2), (3, .int v3)]) hx hb dX5_solved_54 hl (by decide) rfl (fun ls hl => ?_)
        exact w_X5_solved_L56 F hA  FU _ _ z h hE H locs ls hw (lv_sub hl [2, 3, 4, 5, 1, 0] rfl)
      · replace h := stT c6 h
        refine lv_iconst (v := -1) hx hb dX5_solved_48 (by decide) ?_
        obtain rfl := Option.some.inj h
        exact hE H locs _ ls hw dX5_solved_49
end
theorem dX5_findsPolynomial_0 : decode cX5_findsPolynomial 0 = .ok (.iconst 0, 1) := by decide +kernel
theorem dX5_findsPolynomial_1 : decode cX5_findsPolynomial 1 = .ok (.istore_n 1, 1) := by decide +kernel
theorem dX5_findsPolynomial_2 : decode cX5_findsPolynomial 2 = .ok (.iload_n 1, 1) := by decide +kernel
theorem dX5_findsPolynomial_3 : decode cX5_findsPolynomial 3 = .ok (.sipush 168, 3) := by decide +kernel
theorem dX5_findsPolynomial_6 : decode cX5_findsPolynomial 6 = .ok (.if_icmp .ge 30, 3) := by decide +kernel
theorem dX5_findsPolynomial_9 : decode cX5_findsPolynomial 9 = .ok (.aload_n 0, 1) := by decide +kernel
theorem dX5_findsPolynomial_10 : decode cX5_findsPolynomial 10 = .ok (.getfield 22, 3) := by decide +kernel
theorem dX5_findsPolynomial_13 : decode cX5_findsPolynomial 13 = .ok (.iload_n 1, 1) := by decide +kernel
theorem dX5_findsPolynomial_14 : decode cX5_findsPolynomial 14 = .ok (.iload_n 1, 1) := by decide +kernel
theorem dX5_findsPolynomial_15 : decode cX5_findsPolynomial 15 = .ok (.aload_n 0, 1) := by decide +kernel
theorem dX5_findsPolynomial_16 : decode cX5_findsPolynomial 16 = .ok (.getfield 66, 3) := by decide +kernel
theorem dX5_findsPolynomial_19 : decode cX5_findsPolynomial 19 = .ok (.if_icmp .ge 9, 3) := by decide +kernel
theorem dX5_findsPolynomial_22 : decode cX5_findsPolynomial 22 = .ok (.ldc2_w 130, 3) := by decide +kernel
theorem dX5_findsPolynomial_25 : decode cX5_findsPolynomial 25 = .ok (.goto 4, 3) := by decide +kernel
theorem dX5_findsPolynomial_28 : decode cX5_findsPolynomial 28 = .ok (.lconst 0, 1) := by decide +kernel
theorem dX5_findsPolynomial_29 : decode cX5_findsPolynomial 29 = .ok (.lastore, 1) := by decide +kernel
theorem dX5_findsPolynomial_30 : decode cX5_findsPolynomial 30 = .ok (.iinc 1 1, 3) := by decide +kernel
theorem dX5_findsPolynomial_33 : decode cX5_findsPolynomial 33 = .ok (.goto (-31), 3) := by decide +kernel
theorem dX5_findsPolynomial_36 : decode cX5_findsPolynomial 36 = .ok (.iconst 0, 1) := by decide +kernel
theorem dX5_findsPolynomial_37 : decode cX5_findsPolynomial 37 = .ok (.istore_n 1, 1) := by decide +kernel
theorem dX5_findsPolynomial_38 : decode cX5_findsPolynomial 38 = .ok (.iload_n 1, 1) := by decide +kernel
theorem dX5_findsPolynomial_39 : decode cX5_findsPolynomial 39 = .ok (.aload_n 0, 1) := by decide +kernel
theorem dX5_findsPolynomial_40 : decode cX5_findsPolynomial 40 = .ok (.getfield 66, 3) := by decide +kernel
theorem dX5_findsPolynomial_43 : decode cX5_findsPolynomial 43 = .ok (.if_icmp .ge 135, 3) := by decide +kernel
theorem dX5_findsPolynomial_46 : decode cX5_findsPolynomial 46 = .ok (.iload_n 1, 1) := by decide +kernel
theorem dX5_findsPolynomial_47 : decode cX5_findsPolynomial 47 = .ok (.iconst 1, 1) := by decide +kernel
theorem dX5_findsPolynomial_48 : decode cX5_findsPolynomial 48 = .ok (.iadd, 1) := by decide +kernel
theorem dX5_findsPolynomial_49 : decode cX5_findsPolynomial 49 = .ok (.istore_n 2, 1) := by decide +kernel
theorem dX5_findsPolynomial_50 : decode cX5_findsPolynomial 50 = .ok (.iload_n 2, 1) := by decide +kernel
theorem dX5_findsPolynomial_51 : decode cX5_findsPolynomial 51 = .ok (.ifCond .lt 121, 3) := by decide +kernel
theorem dX5_findsPolynomial_54 : decode cX5_findsPolynomial 54 = .ok (.iconst 0, 1) := by decide +kernel
theorem dX5_findsPolynomial_55 : decode cX5_findsPolynomial 55 = .ok (.istore_n 3, 1) := by decide +kernel
theorem dX5_findsPolynomial_56 : decode cX5_findsPolynomial 56 = .ok (.iload_n 3, 1) := by decide +kernel
theorem dX5_findsPolynomial_57 : decode cX5_findsPolynomial 57 = .ok (.aload_n 0, 1) := by decide +kernel
theorem dX5_findsPolynomial_58 : decode cX5_findsPolynomial 58 = .ok (.getfield 66, 3) := by decide +kernel
theorem dX5_findsPolynomial_61 : decode cX5_findsPolynomial 61 = .ok (.if_icmp .ge 85, 3) := by decide +kernel
theorem dX5_findsPolynomial_64 : decode cX5_findsPolynomial 64 = .ok (.aload_n 0, 1) := by decide +kernel
theorem dX5_findsPolynomial_65 : decode cX5_findsPolynomial 65 = .ok (.getfield 25, 3) := by decide +kernel
theorem dX5_findsPolynomial_68 : decode cX5_findsPolynomial 68 = .ok (.iload_n 3, 1) := by decide +kernel
theorem dX5_findsPolynomial_69 : decode cX5_findsPolynomial 69 = .ok (.iload_n 2, 1) := by decide +kernel
theorem dX5_findsPolynomial_70 : decode cX5_findsPolynomial 70 = .ok (.ifCond .le 19, 3) := by decide +kernel
theorem dX5_findsPolynomial_73 : decode cX5_findsPolynomial 73 = .ok (.aload_n 0, 1) := by decide +kernel
theorem dX5_findsPolynomial_74 : decode cX5_findsPolynomial 74 = .ok (.getfield 22, 3) := by decide +kernel
theorem dX5_findsPolynomial_77 : decode cX5_findsPolynomial 77 = .ok (.bipush 12, 2) := by decide +kernel
theorem dX5_findsPolynomial_79 : decode cX5_findsPolynomial 79 = .ok (.iload_n 2, 1) := by decide +kernel
theorem dX5_findsPolynomial_80 : decode cX5_findsPolynomial 80 = .ok (.iconst 1, 1) := by decide +kernel
theorem dX5_findsPolynomial_81 : decode cX5_findsPolynomial 81 = .ok (.isub, 1) := by decide +kernel
theorem dX5_findsPolynomial_82 : decode cX5_findsPolynomial 82 = .ok (.imul, 1) := by decide +kernel
theorem dX5_findsPolynomial_83 : decode cX5_findsPolynomial 83 = .ok (.iload_n 3, 1) := by decide +kernel
theorem dX5_findsPolynomial_84 : decode cX5_findsPolynomial 84 = .ok (.iadd, 1) := by decide +kernel
theorem dX5_findsPolynomial_85 : decode cX5_findsPolynomial 85 = .ok (.laload, 1) := by decide +kernel
theorem dX5_findsPolynomial_86 : decode cX5_findsPolynomial 86 = .ok (.goto 4, 3) := by decide +kernel
theorem dX5_findsPolynomial_89 : decode cX5_findsPolynomial 89 = .ok (.lconst 0, 1) := by decide +kernel
theorem dX5_findsPolynomial_90 : decode cX5_findsPolynomial 90 = .ok (.lastore, 1) := by decide +kernel
theorem dX5_findsPolynomial_91 : decode cX5_findsPolynomial 91 = .ok (.iconst 0, 1) := by decide +kernel
theorem dX5_findsPolynomial_92 : decode cX5_findsPolynomial 92 = .ok (.istore 4, 2) := by decide +kernel
theorem dX5_findsPolynomial_94 : decode cX5_findsPolynomial 94 = .ok (.iload 4, 2) := by decide +kernel
theorem dX5_findsPolynomial_96 : decode cX5_findsPolynomial 96 = .ok (.aload_n 0, 1) := by decide +kernel
theorem dX5_findsPolynomial_97 : decode cX5_findsPolynomial 97 = .ok (.getfield 66, 3) := by decide +kernel
theorem dX5_findsPolynomial_100 : decode cX5_findsPolynomial 100 = .ok (.if_icmp .ge 40, 3) := by decide +kernel
theorem dX5_findsPolynomial_103 : decode cX5_findsPolynomial 103 = .ok (.aload_n 0, 1) := by decide +kernel
theorem dX5_findsPolynomial_104 : decode cX5_findsPolynomial 104 = .ok (.getfield 25, 3) := by decide +kernel
theorem dX5_findsPolynomial_107 : decode cX5_findsPolynomial 107 = .ok (.iload_n 3, 1) := by decide +kernel
theorem dX5_findsPolynomial_108 : decode cX5_findsPolynomial 108 = .ok (.dup2, 1) := by decide +kernel
theorem dX5_findsPolynomial_109 : decode cX5_findsPolynomial 109 = .ok (.laload, 1) := by decide +kernel
theorem dX5_findsPolynomial_110 : decode cX5_findsPolynomial 110 = .ok (.aload_n 0, 1) := by decide +kernel
theorem dX5_findsPolynomial_111 : decode cX5_findsPolynomial 111 = .ok (.getfield 22, 3) := by decide +kernel
theorem dX5_findsPolynomial_114 : decode cX5_findsPolynomial 114 = .ok (.bipush 12, 2) := by decide +kernel
theorem dX5_findsPolynomial_116 : decode cX5_findsPolynomial 116 = .ok (.iload_n 2, 1) := by decide +kernel
theorem dX5_findsPolynomial_117 : decode cX5_findsPolynomial 117 = .ok (.imul, 1) := by decide +kernel
theorem dX5_findsPolynomial_118 : decode cX5_findsPolynomial 118 = .ok (.iload 4, 2) := by decide +kernel
theorem dX5_findsPolynomial_120 : decode cX5_findsPolynomial 120 = .ok (.iadd, 1) := by decide +kernel
theorem dX5_findsPolynomial_121 : decode cX5_findsPolynomial 121 = .ok (.laload, 1) := by decide +kernel
theorem dX5_findsPolynomial_122 : decode cX5_findsPolynomial 122 = .ok (.aload_n 0, 1) := by decide +kernel
theorem dX5_findsPolynomial_123 : decode cX5_findsPolynomial 123 = .ok (.iload_n 1, 1) := by decide +kernel
theorem dX5_findsPolynomial_124 : decode cX5_findsPolynomial 124 = .ok (.iload 4, 2) := by decide +kernel
theorem dX5_findsPolynomial_126 : decode cX5_findsPolynomial 126 = .ok (.iload_n 3, 1) := by decide +kernel
theorem dX5_findsPolynomial_127 : decode cX5_findsPolynomial 127 = .ok (.invokevirtual 124, 3) := by decide +kernel
theorem dX5_findsPolynomial_130 : decode cX5_findsPolynomial 130 = .ok (.i2l, 1) := by decide +kernel
theorem dX5_findsPolynomial_131 : decode cX5_findsPolynomial 131 = .ok (.lmul, 1) := by decide +kernel
theorem dX5_findsPolynomial_132 : decode cX5_findsPolynomial 132 = .ok (.lsub, 1) := by decide +kernel
theorem dX5_findsPolynomial_133 : decode cX5_findsPolynomial 133 = .ok (.lastore, 1) := by decide +kernel
theorem dX5_findsPolynomial_134 : decode cX5_findsPolynomial 134 = .ok (.iinc 4 1, 3) := by decide +kernel
theorem dX5_findsPolynomial_137 : decode cX5_findsPolynomial 137 = .ok (.goto (-43), 3) := by decide +kernel
theorem dX5_findsPolynomial_140 : decode cX5_findsPolynomial 140 = .ok (.iinc 3 1, 3) := by decide +kernel
theorem dX5_findsPolynomial_143 : decode cX5_findsPolynomial 143 = .ok (.goto (-87), 3) := by decide +kernel
theorem dX5_findsPolynomial_146 : decode cX5_findsPolynomial 146 = .ok (.aload_n 0, 1) := by decide +kernel
theorem dX5_findsPolynomial_147 : decode cX5_findsPolynomial 147 = .ok (.getfield 25, 3) := by decide +kernel
theorem dX5_findsPolynomial_150 : decode cX5_findsPolynomial 150 = .ok (.iconst 0, 1) := by decide +kernel
theorem dX5_findsPolynomial_151 : decode cX5_findsPolynomial 151 = .ok (.aload_n 0, 1) := by decide +kernel
theorem dX5_findsPolynomial_152 : decode cX5_findsPolynomial 152 = .ok (.getfield 22, 3) := by decide +kernel
theorem dX5_findsPolynomial_155 : decode cX5_findsPolynomial 155 = .ok (.bipush 12, 2) := by decide +kernel
theorem dX5_findsPolynomial_157 : decode cX5_findsPolynomial 157 = .ok (.iload_n 2, 1) := by decide +kernel
theorem dX5_findsPolynomial_158 : decode cX5_findsPolynomial 158 = .ok (.imul, 1) := by decide +kernel
theorem dX5_findsPolynomial_159 : decode cX5_findsPolynomial 159 = .ok (.aload_n 0, 1) := by decide +kernel
theorem dX5_findsPolynomial_160 : decode cX5_findsPolynomial 160 = .ok (.getfield 66, 3) := by decide +kernel
theorem dX5_findsPolynomial_163 : decode cX5_findsPolynomial 163 = .ok (.invokestatic 132, 3) := by decide +kernel
theorem dX5_findsPolynomial_166 : decode cX5_findsPolynomial 166 = .ok (.iinc 2 (-1), 3) := by decide +kernel
theorem dX5_findsPolynomial_169 : decode cX5_findsPolynomial 169 = .ok (.goto (-119), 3) := by decide +kernel
theorem dX5_findsPolynomial_172 : decode cX5_findsPolynomial 172 = .ok (.iinc 1 1, 3) := by decide +kernel
theorem dX5_findsPolynomial_175 : decode cX5_findsPolynomial 175 = .ok (.goto (-137), 3) := by decide +kernel
theorem dX5_findsPolynomial_178 : decode cX5_findsPolynomial 178 = .ok (.return_, 1) := by decide +kernel
section
variable {p : Program} {l : Launch} {e : Env} {s : State} {m : MethodId} {args : Array Value} {below : List Frame} {meth : Method} {c : Code} {Q : State → Prop} {G : GG} {A : Nat → Prop} {q : Nat → Nat} {fr : va_W}
def f_X5_findsPolynomial_L94 (yp : Int32) (ye : Int32) (bPo : Nat → Int32) (bTb : Nat → Int32) (KK : (Nat → Int64) → (Nat → Int64) → Int32 → Int32 → Int32 → Option ((Nat → Int64) × (Nat → Int64))) : Nat → (Nat → Int64) → (Nat → Int64) → Int32 → Int32 → Int32 → Int32 → Option ((Nat → Int64) × (Nat → Int64))
  | 0, _, _, _, _, _, _ => none
  | fu + 1, wTe, wNx, v1, v2, v3, v4 =>
    if ye ≤ v4 then
    KK wTe wNx v1 v2 (v3 + 1)
    else
    if inb v3 12 then
    if inb ((12 * v2) + v4) 168 then
    (f_X5_timesOf yp ye bPo bTb v1 v4 v3).bind fun z4 =>
    if inb v3 12 then
    f_X5_findsPolynomial_L94 yp ye bPo bTb KK fu wTe (vp_updL wNx v3.toNatClampNeg ((wNx v3.toNatClampNeg) - ((wTe ((12 * v2) + v4).toNatClampNeg) * z4.toInt64))) v1 v2 v3 (v4 + 1)
    else none
    else none
    else none
set_option maxHeartbeats 4000000 in
set_option maxRecDepth 100000 in
theorem w_X5_findsPolynomial_L94  {yp : Int32} {ye : Int32} {yg : Int32} {bPo : Nat → Int32} {bTb : Nat → Int32} {wSh : Nat → Int64} {bOs : Nat → Int32} {bOn : Nat → Int32} {yop : Int32} {bSo : Nat → Int32} {bNu : Nat → Int32} {ytr : Int32} {yiw : Int32} {wMa : Nat → Int64} {wPr : Nat → Int64} {bTp : Nat → Int32} {yln : Int32} {ypl : Int32} {yfa : Int32} {wLi : Nat → Int64} {bSi : Nat → Int32} {yhp : Int32} {yhe : Int32} {yhg : Int32} {wHs : Nat → Int64} {yhi : Int32}  {KK : (Nat → Int64) → (Nat → Int64) → Int32 → Int32 → Int32 → Option ((Nat → Int64) × (Nat → Int64))} (F : Fx p s m args meth c cX5_findsPolynomial 5 RX5 none) (hA : ∀ q, s.heap.size ≤ q → A q)  (hK : ∀ (wTe : Nat → Int64) (wNx : Nat → Int64) (v1 : Int32) (v2 : Int32) (v3 : Int32) (z : (Nat → Int64) × (Nat → Int64)), KK wTe wNx v1 v2 v3 = some z → Ends p l e (rmOf 4 87) s m args below meth c Q cX5_findsPolynomial G A none (none) (mW G q yp ye yg bPo bTb wSh z.1 z.2 bOs bOn yop bSo bNu ytr yiw wMa wPr bTp yln ypl yfa wLi bSi yhp yhe yhg wHs yhi ++ fr) → ∀ (H : Heap) (locs : List Loc) (ls : Array Slot), Wd G s A (mW G q yp ye yg bPo bTb wSh wTe wNx bOs bOn yop bSo bNu ytr yiw wMa wPr bTp yln ypl yfa wLi bSi yhp yhe yhg wHs yhi ++ fr) H locs → lv_has ls 5 [(0, .ref (q 0)), (1, .int v1), (2, .int v2), (3, .int v3)] → W p l e (rmOf 4 87) s m args below meth c H locs 0 0 Q (F0 m 56 ls [])) : ∀ (fu : Nat) (wTe : Nat → Int64) (wNx : Nat → Int64) (v1 : Int32) (v2 : Int32) (v3 : Int32) (v4 : Int32) (z : (Nat → Int64) × (Nat → Int64)), f_X5_findsPolynomial_L94 yp ye bPo bTb KK fu wTe wNx v1 v2 v3 v4 = some z → Ends p l e (rmOf 4 87) s m args below meth c Q cX5_findsPolynomial G A none (none) (mW G q yp ye yg bPo bTb wSh z.1 z.2 bOs bOn yop bSo bNu ytr yiw wMa wPr bTp yln ypl yfa wLi bSi yhp yhe yhg wHs yhi ++ fr) → ∀ (H : Heap) (locs : List Loc) (ls : Array Slot), Wd G s A (mW G q yp ye yg bPo bTb wSh wTe wNx bOs bOn yop bSo bNu ytr yiw wMa wPr bTp yln ypl yfa wLi bSi yhp yhe yhg wHs yhi ++ fr) H locs → lv_has ls 5 [(0, .ref (q 0)), (1, .int v1), (2, .int v2), (3, .int v3), (4, .int v4)] → W p l e (rmOf 4 87) s m args below meth c H locs 0 0 Q (F0 m 94 ls []) := by
  have hx := F.x
  have hb := F.b
  intro fu
  induction fu with
  | zero =>
    intro wTe wNx v1 v2 v3 v4 z h
    cases (h : none = some z)
  | succ fu ih =>
    intro wTe wNx v1 v2 v3 v4 z h hE H locs ls hw hl
    rw [f_X5_findsPolynomial_L94] at h
    refine lv_iload hx hb dX5_findsPolynomial_94 (lv_at hl 4 rfl) ?_
    refine lv_aload_n hx hb dX5_findsPolynomial_96 rfl (lv_at hl 0 rfl) ?_
    refine gf_5_66 F hw dX5_findsPolynomial_97 ?_
    refine lv_icmp_ge (tgt := 140) hx hb dX5_findsPolynomial_100 (by decide) (fun c1 => ?_) (fun c1 => ?_)
    · replace h := stT c1 h
      refine lv_iinc (v := (v3 + 1)) (lv' := [(3, .int (v3 + 1)), (0, .ref (q 0)), (1, .int v1), (2, .int v2), (4, .int v4)]) hx hb dX5_findsPolynomial_140 hl (k := 3) rfl rfl (by decide) rfl (fun ls hl => ?_)
      refine lv_goto (tgt := 56) hx hb dX5_findsPolynomial_143 (by decide) ?_
      exact hK _ _ _ _ _ z h hE H locs ls hw (lv_sub hl [1, 2, 3, 0] rfl)
    · replace h := stF c1 h
      refine lv_aload_n hx hb dX5_findsPolynomial_103 rfl (lv_at hl 0 rfl) ?_
      refine gf_5_25 F hw dX5_findsPolynomial_104 ?_
      refine lv_iload_n hx hb dX5_findsPolynomial_107 rfl (lv_at hl 3 rfl) ?_
      refine lv_dup2_11 hx hb dX5_findsPolynomial_108 rfl rfl ?_
      obtain ⟨g2, h⟩ := stG h
      refine al_m5 F hw g2 dX5_findsPolynomial_109 ?_
      refine lv_aload_n hx hb dX5_findsPolynomial_110 rfl (lv_at hl 0 rfl) ?_
      refine gf_5_22 F hw dX5_findsPolynomial_111 ?_
      refine lv_bipush (v := 12) hx hb dX5_findsPolynomial_114 (by decide) ?_
      refine lv_iload_n hx hb dX5_findsPolynomial_116 rfl (lv_at hl 2 rfl) ?_
      refine lv_imul hx hb dX5_findsPolynomial_117 ?_
      refine lv_iload hx hb dX5_findsPolynomial_118 (lv_at hl 4 rfl) ?_
      refine lv_iadd hx hb dX5_findsPolynomial_120 ?_
      obtain ⟨g3, h⟩ := stG h
      refine al_m4 F hw g3 dX5_findsPolynomial_121 ?_
      refine lv_aload_n hx hb dX5_findsPolynomial_122 rfl (lv_at hl 0 rfl) ?_
      refine lv_iload_n hx hb dX5_findsPolynomial_123 rfl (lv_at hl 1 rfl) ?_
      refine lv_iload hx hb dX5_findsPolynomial_124 (lv_at hl 4 rfl) ?_
      refine lv_iload_n hx hb dX5_findsPolynomial_126 rfl (lv_at hl 3 rfl) ?_
      obtain ⟨z4, hz4, h⟩ := stB h
      refine ctV (av := [.int v1, .int v4, .int v3]) (st0 := ([.long (wTe ((12 * v2) + v4).toNatClampNeg), .long (wNx v3.toNatClampNeg), .int v3, .ref (q 5)] : List Value)) (st1 := ([.int z4, .long (wTe ((12 * v2) + v4).toNatClampNeg), .long (wNx v3.toNatClampNeg), .int v3, .ref (q 5)] : List Value)) F hw hA (k_X5_timesOf hz4) kl_5_124 kd_X5_timesOf rfl ⟨by decide, by decide⟩ 0 rfl rfl hl.1 rfl (Nat.le_of_ble_eq_true rfl) dX5_findsPolynomial_127 rfl (fun H locs hw => ?_)
      refine lv_i2l (v := z4.toInt64) hx hb dX5_findsPolynomial_130 rfl ?_
      refine lv_lmul hx hb dX5_findsPolynomial_131 ?_
      refine lv_lsub hx hb dX5_findsPolynomial_132 ?_
      obtain ⟨g5, h⟩ := stG h
      refine as_m5 F hw g5 dX5_findsPolynomial_133 (fun H locs hw => ?_)
      refine lv_iinc (v := (v4 + 1)) (lv' := [(4, .int (v4 + 1)), (0, .ref (q 0)), (1, .int v1), (2, .int v2), (3, .int v3)]) hx hb dX5_findsPolynomial_134 hl (k := 4) rfl rfl (by decide) rfl (fun ls hl => ?_)
      refine lv_goto (tgt := 94) hx hb dX5_findsPolynomial_137 (by decide) ?_
      exact ih _ _ _ _ _ _ z h hE H locs ls hw (lv_sub hl [1, 2, 3, 4, 0] rfl)
def f_X5_findsPolynomial_L56 (yp : Int32) (ye : Int32) (bPo : Nat → Int32) (bTb : Nat → Int32) (KK : (Nat → Int64) → (Nat → Int64) → Int32 → Int32 → Option ((Nat → Int64) × (Nat → Int64))) : Nat → (Nat → Int64) → (Nat → Int64) → Int32 → Int32 → Int32 → Option ((Nat → Int64) × (Nat → Int64))
  | 0, _, _, _, _, _ => none
  | fu + 1, wTe, wNx, v1, v2, v3 =>
    if ye ≤ v3 then
    if cpk 0 (12 * v2) ye 12 168 then
    KK (va_cpy wNx wTe (0 : Int32).toNatClampNeg (12 * v2).toNatClampNeg ye.toNatClampNeg) wNx v1 (v2 + (-1))
    else none
    else
    if v2 ≤ 0 then
    if inb v3 12 then
    f_X5_findsPolynomial_L94 yp ye bPo bTb (fun w0 w1 w2 w3 w4 => f_X5_findsPolynomial_L56 yp ye bPo bTb KK fu w0 w1 w2 w3 w4) FU wTe (vp_updL wNx v3.toNatClampNeg 0) v1 v2 v3 0
    else none
    else
    if inb ((12 * (v2 - 1)) + v3) 168 then
    if inb v3 12 then
    f_X5_findsPolynomial_L94 yp ye bPo bTb (fun w0 w1 w2 w3 w4 => f_X5_findsPolynomial_L56 yp ye bPo bTb KK fu w0 w1 w2 w3 w4) FU wTe (vp_updL wNx v3.toNatClampNeg (wTe ((12 * (v2 - 1)) + v3).toNatClampNeg)) v1 v2 v3 0
    else none
    else none
set_option maxHeartbeats 4000000 in
set_option maxRecDepth 100000 in
theorem w_X5_findsPolynomial_L56  {yp : Int32} {ye : Int32} {yg : Int32} {bPo : Nat → Int32} {bTb : Nat → Int32} {wSh : Nat → Int64} {bOs : Nat → Int32} {bOn : Nat → Int32} {yop : Int32} {bSo : Nat → Int32} {bNu : Nat → Int32} {ytr : Int32} {yiw : Int32} {wMa : Nat → Int64} {wPr : Nat → Int64} {bTp : Nat → Int32} {yln : Int32} {ypl : Int32} {yfa : Int32} {wLi : Nat → Int64} {bSi : Nat → Int32} {yhp : Int32} {yhe : Int32} {yhg : Int32} {wHs : Nat → Int64} {yhi : Int32}  {KK : (Nat → Int64) → (Nat → Int64) → Int32 → Int32 → Option ((Nat → Int64) × (Nat → Int64))} (F : Fx p s m args meth c cX5_findsPolynomial 5 RX5 none) (hA : ∀ q, s.heap.size ≤ q → A q)  (hK : ∀ (wTe : Nat → Int64) (wNx : Nat → Int64) (v1 : Int32) (v2 : Int32) (z : (Nat → Int64) × (Nat → Int64)), KK wTe wNx v1 v2 = some z → Ends p l e (rmOf 4 87) s m args below meth c Q cX5_findsPolynomial G A none (none) (mW G q yp ye yg bPo bTb wSh z.1 z.2 bOs bOn yop bSo bNu ytr yiw wMa wPr bTp yln ypl yfa wLi bSi yhp yhe yhg wHs yhi ++ fr) → ∀ (H : Heap) (locs : List Loc) (ls : Array Slot), Wd G s A (mW G q yp ye yg bPo bTb wSh wTe wNx bOs bOn yop bSo bNu ytr yiw wMa wPr bTp yln ypl yfa wLi bSi yhp yhe yhg wHs yhi ++ fr) H locs → lv_has ls 5 [(0, .ref (q 0)), (1, .int v1), (2, .int v2)] → W p l e (rmOf 4 87) s m args below meth c H locs 0 0 Q (F0 m 50 ls [])) : ∀ (fu : Nat) (wTe : Nat → Int64) (wNx : Nat → Int64) (v1 : Int32) (v2 : Int32) (v3 : Int32) (z : (Nat → Int64) × (Nat → Int64)), f_X5_findsPolynomial_L56 yp ye bPo bTb KK fu wTe wNx v1 v2 v3 = some z → Ends p l e (rmOf 4 87) s m args below meth c Q cX5_findsPolynomial G A none (none) (mW G q yp ye yg bPo bTb wSh z.1 z.2 bOs bOn yop bSo bNu ytr yiw wMa wPr bTp yln ypl yfa wLi bSi yhp yhe yhg wHs yhi ++ fr) → ∀ (H : Heap) (locs : List Loc) (ls : Array Slot), Wd G s A (mW G q yp ye yg bPo bTb wSh wTe wNx bOs bOn yop bSo bNu ytr yiw wMa wPr bTp yln ypl yfa wLi bSi yhp yhe yhg wHs yhi ++ fr) H locs → lv_has ls 5 [(0, .ref (q 0)), (1, .int v1), (2, .int v2), (3, .int v3)] → W p l e (rmOf 4 87) s m args below meth c H locs 0 0 Q (F0 m 56 ls []) := by
  have hx := F.x
  have hb := F.b
  intro fu
  induction fu with
  | zero =>
    intro wTe wNx v1 v2 v3 z h
    cases (h : none = some z)
  | succ fu ih =>
    intro wTe wNx v1 v2 v3 z h hE H locs ls hw hl
    rw [f_X5_findsPolynomial_L56] at h
    refine lv_iload_n hx hb dX5_findsPolynomial_56 rfl (lv_at hl 3 rfl) ?_
    refine lv_aload_n hx hb dX5_findsPolynomial_57 rfl (lv_at hl 0 rfl) ?_
    refine gf_5_66 F hw dX5_findsPolynomial_58 ?_
    refine lv_icmp_ge (tgt := 146) hx hb dX5_findsPolynomial_61 (by decide) (fun c1 => ?_) (fun c1 => ?_)
    · replace h := stT c1 h
      refine lv_aload_n hx hb dX5_findsPolynomial_146 rfl (lv_at hl 0 rfl) ?_
      refine gf_5_25 F hw dX5_findsPolynomial_147 ?_
      refine lv_iconst (v := 0) hx hb dX5_findsPolynomial_150 (by decide) ?_
      refine lv_aload_n hx hb dX5_findsPolynomial_151 rfl (lv_at hl 0 rfl) ?_
      refine gf_5_22 F hw dX5_findsPolynomial_152 ?_
      refine lv_bipush (v := 12) hx hb dX5_findsPolynomial_155 (by decide) ?_
      refine lv_iload_n hx hb dX5_findsPolynomial_157 rfl (lv_at hl 2 rfl) ?_
      refine lv_imul hx hb dX5_findsPolynomial_158 ?_
      refine lv_aload_n hx hb dX5_findsPolynomial_159 rfl (lv_at hl 0 rfl) ?_
      refine gf_5_66 F hw dX5_findsPolynomial_160 ?_
      obtain ⟨g2, h⟩ := stG h
      refine va_copyl F.x F.b (F.ml.trans hl.1.symm) F.ow (F.ts _ kac1) (F.ts _ kac2) (F.ts _ kac3) (F.ts _ kac4) hw.1 hw.2.1 hw.2.2.1 hw.2.2.2 5 4 2 2 (f := wNx) (g := wTe) (n0 := 12) (n1 := 168) (ty := .long) rfl rfl rfl rfl rfl (cpk1 g2) (cpk2 g2) (cpk3 g2) (cpk4 g2) (cpk5 g2) (fun _ _ => rfl) (by decide) (by decide) dX5_findsPolynomial_163 (fun H locs hP hD hS => ?_)
      have hw : Wd G s A (mW G q yp ye yg bPo bTb wSh (va_cpy wNx wTe (0 : Int32).toNatClampNeg (12 * v2).toNatClampNeg ye.toNatClampNeg) wNx bOs bOn yop bSo bNu ytr yiw wMa wPr bTp yln ypl yfa wLi bSi yhp yhe yhg wHs yhi ++ fr) H locs := ⟨hw.1, hP, hD, hS⟩
      refine lv_iinc (v := (v2 + (-1))) (lv' := [(2, .int (v2 + (-1))), (0, .ref (q 0)), (1, .int v1), (3, .int v3)]) hx hb dX5_findsPolynomial_166 hl (k := 2) rfl rfl (by decide) rfl (fun ls hl => ?_)
      refine lv_goto (tgt := 50) hx hb dX5_findsPolynomial_169 (by decide) ?_
      exact hK _ _ _ _ z h hE H locs ls hw (lv_sub hl [1, 2, 0] rfl)
    · replace h := stF c1 h
      refine lv_aload_n hx hb dX5_findsPolynomial_64 rfl (lv_at hl 0 rfl) ?_
      refine gf_5_25 F hw dX5_findsPolynomial_65 ?_
      refine lv_iload_n hx hb dX5_findsPolynomial_68 rfl (lv_at hl 3 rfl) ?_
      refine lv_iload_n hx hb dX5_findsPolynomial_69 rfl (lv_at hl 2 rfl) ?_
      refine lv_if_le (tgt := 89) hx hb dX5_findsPolynomial_70 (by decide) (fun c3 => ?_) (fun c3 => ?_)
      · replace h := stT c3 h
        refine lv_lconst (v := 0) hx hb dX5_findsPolynomial_89 (by decide) ?_
        obtain ⟨g4, h⟩ := stG h
        refine as_m5 F hw g4 dX5_findsPolynomial_90 (fun H locs hw => ?_)
        refine lv_iconst (v := 0) hx hb dX5_findsPolynomial_91 (by decide) ?_
        refine lv_istore (lv' := [(4, .int 0), (0, .ref (q 0)), (1, .int v1), (2, .int v2), (3, .int v3)]) hx hb dX5_findsPolynomial_92 hl (by decide) rfl (fun ls hl => ?_)
        exact w_X5_findsPolynomial_L94 F hA  (fun w0 w1 w2 w3 w4 z h hE H locs ls hw hl => ih w0 w1 w2 w3 w4 z h hE H locs ls hw hl) FU _ _ _ _ _ _ z h hE H locs ls hw (lv_sub hl [1, 2, 3, 4, 0] rfl)
      · replace h := stF c3 h
        refine lv_aload_n hx hb dX5_findsPolynomial_73 rfl (lv_at hl 0 rfl) ?_
        refine gf_5_22 F hw dX5_findsPolynomial_74 ?_
        refine lv_bipush (v := 12) hx hb dX5_findsPolynomial_77 (by decide) ?_
        refine lv_iload_n hx hb dX5_findsPolynomial_79 rfl (lv_at hl 2 rfl) ?_
        refine lv_iconst (v := 1) hx hb dX5_findsPolynomial_80 (by decide) ?_
        refine lv_isub hx hb dX5_findsPolynomial_81 ?_
        refine lv_imul hx hb dX5_findsPolynomial_82 ?_
        refine lv_iload_n hx hb dX5_findsPolynomial_83 rfl (lv_at hl 3 rfl) ?_
        refine lv_iadd hx hb dX5_findsPolynomial_84 ?_
        obtain ⟨g5, h⟩ := stG h
        refine al_m4 F hw g5 dX5_findsPolynomial_85 ?_
        refine lv_goto (tgt := 90) hx hb dX5_findsPolynomial_86 (by decide) ?_
        obtain ⟨g6, h⟩ := stG h
        refine as_m5 F hw g6 dX5_findsPolynomial_90 (fun H locs hw => ?_)
        refine lv_iconst (v := 0) hx hb dX5_findsPolynomial_91 (by decide) ?_
        refine lv_istore (lv' := [(4, .int 0), (0, .ref (q 0)), (1, .int v1), (2, .int v2), (3, .int v3)]) hx hb dX5_findsPolynomial_92 hl (by decide) rfl (fun ls hl => ?_)
        exact w_X5_findsPolynomial_L94 F hA  (fun w0 w1 w2 w3 w4 z h hE H locs ls hw hl => ih w0 w1 w2 w3 w4 z h hE H locs ls hw hl) FU _ _ _ _ _ _ z h hE H locs ls hw (lv_sub hl [1, 2, 3, 4, 0] rfl)
def f_X5_findsPolynomial_L50 (yp : Int32) (ye : Int32) (bPo : Nat → Int32) (bTb : Nat → Int32) (KK : (Nat → Int64) → (Nat → Int64) → Int32 → Option ((Nat → Int64) × (Nat → Int64))) : Nat → (Nat → Int64) → (Nat → Int64) → Int32 → Int32 → Option ((Nat → Int64) × (Nat → Int64))
  | 0, _, _, _, _ => none
  | fu + 1, wTe, wNx, v1, v2 =>
    if v2 < 0 then
    KK wTe wNx (v1 + 1)
    else
    f_X5_findsPolynomial_L56 yp ye bPo bTb (fun w0 w1 w2 w3 => f_X5_findsPolynomial_L50 yp ye bPo bTb KK fu w0 w1 w2 w3) FU wTe wNx v1 v2 0
set_option maxHeartbeats 4000000 in
set_option maxRecDepth 100000 in
theorem w_X5_findsPolynomial_L50  {yp : Int32} {ye : Int32} {yg : Int32} {bPo : Nat → Int32} {bTb : Nat → Int32} {wSh : Nat → Int64} {bOs : Nat → Int32} {bOn : Nat → Int32} {yop : Int32} {bSo : Nat → Int32} {bNu : Nat → Int32} {ytr : Int32} {yiw : Int32} {wMa : Nat → Int64} {wPr : Nat → Int64} {bTp : Nat → Int32} {yln : Int32} {ypl : Int32} {yfa : Int32} {wLi : Nat → Int64} {bSi : Nat → Int32} {yhp : Int32} {yhe : Int32} {yhg : Int32} {wHs : Nat → Int64} {yhi : Int32}  {KK : (Nat → Int64) → (Nat → Int64) → Int32 → Option ((Nat → Int64) × (Nat → Int64))} (F : Fx p s m args meth c cX5_findsPolynomial 5 RX5 none) (hA : ∀ q, s.heap.size ≤ q → A q)  (hK : ∀ (wTe : Nat → Int64) (wNx : Nat → Int64) (v1 : Int32) (z : (Nat → Int64) × (Nat → Int64)), KK wTe wNx v1 = some z → Ends p l e (rmOf 4 87) s m args below meth c Q cX5_findsPolynomial G A none (none) (mW G q yp ye yg bPo bTb wSh z.1 z.2 bOs bOn yop bSo bNu ytr yiw wMa wPr bTp yln ypl yfa wLi bSi yhp yhe yhg wHs yhi ++ fr) → ∀ (H : Heap) (locs : List Loc) (ls : Array Slot), Wd G s A (mW G q yp ye yg bPo bTb wSh wTe wNx bOs bOn yop bSo bNu ytr yiw wMa wPr bTp yln ypl yfa wLi bSi yhp yhe yhg wHs yhi ++ fr) H locs → lv_has ls 5 [(0, .ref (q 0)), (1, .int v1)] → W p l e (rmOf 4 87) s m args below meth c H locs 0 0 Q (F0 m 38 ls [])) : ∀ (fu : Nat) (wTe : Nat → Int64) (wNx : Nat → Int64) (v1 : Int32) (v2 : Int32) (z : (Nat → Int64) × (Nat → Int64)), f_X5_findsPolynomial_L50 yp ye bPo bTb KK fu wTe wNx v1 v2 = some z → Ends p l e (rmOf 4 87) s m args below meth c Q cX5_findsPolynomial G A none (none) (mW G q yp ye yg bPo bTb wSh z.1 z.2 bOs bOn yop bSo bNu ytr yiw wMa wPr bTp yln ypl yfa wLi bSi yhp yhe yhg wHs yhi ++ fr) → ∀ (H : Heap) (locs : List Loc) (ls : Array Slot), Wd G s A (mW G q yp ye yg bPo bTb wSh wTe wNx bOs bOn yop bSo bNu ytr yiw wMa wPr bTp yln ypl yfa wLi bSi yhp yhe yhg wHs yhi ++ fr) H locs → lv_has ls 5 [(0, .ref (q 0)), (1, .int v1), (2, .int v2)] → W p l e (rmOf 4 87) s m args below meth c H locs 0 0 Q (F0 m 50 ls []) := by
  have hx := F.x
  have hb := F.b
  intro fu
  induction fu with
  | zero =>
    intro wTe wNx v1 v2 z h
    cases (h : none = some z)
  | succ fu ih =>
    intro wTe wNx v1 v2 z h hE H locs ls hw hl
    rw [f_X5_findsPolynomial_L50] at h
    refine lv_iload_n hx hb dX5_findsPolynomial_50 rfl (lv_at hl 2 rfl) ?_
    refine lv_if_lt (tgt := 172) hx hb dX5_findsPolynomial_51 (by decide) (fun c1 => ?_) (fun c1 => ?_)
    · replace h := stT c1 h
      refine lv_iinc (v := (v1 + 1)) (lv' := [(1, .int (v1 + 1)), (0, .ref (q 0)), (2, .int v2)]) hx hb dX5_findsPolynomial_172 hl (k := 1) rfl rfl (by decide) rfl (fun ls hl => ?_)
      refine lv_goto (tgt := 38) hx hb dX5_findsPolynomial_175 (by decide) ?_
      exact hK _ _ _ z h hE H locs ls hw (lv_sub hl [1, 0] rfl)
    · replace h := stF c1 h
      refine lv_iconst (v := 0) hx hb dX5_findsPolynomial_54 (by decide) ?_
      refine lv_istore_n (lv' := [(3, .int 0), (0, .ref (q 0)), (1, .int v1), (2, .int v2)]) hx hb dX5_findsPolynomial_55 rfl hl (by decide) rfl (fun ls hl => ?_)
      exact w_X5_findsPolynomial_L56 F hA  (fun w0 w1 w2 w3 z h hE H locs ls hw hl => ih w0 w1 w2 w3 z h hE H locs ls hw hl) FU _ _ _ _ _ z h hE H locs ls hw (lv_sub hl [1, 2, 3, 0] rfl)
def f_X5_findsPolynomial_L38 (yp : Int32) (ye : Int32) (bPo : Nat → Int32) (bTb : Nat → Int32) : Nat → (Nat → Int64) → (Nat → Int64) → Int32 → Option ((Nat → Int64) × (Nat → Int64))
  | 0, _, _, _ => none
  | fu + 1, wTe, wNx, v1 =>
    if ye ≤ v1 then
    some (wTe, wNx)
    else
    f_X5_findsPolynomial_L50 yp ye bPo bTb (fun w0 w1 w2 => f_X5_findsPolynomial_L38 yp ye bPo bTb fu w0 w1 w2) FU wTe wNx v1 (v1 + 1)
set_option maxHeartbeats 4000000 in
set_option maxRecDepth 100000 in
theorem w_X5_findsPolynomial_L38  {yp : Int32} {ye : Int32} {yg : Int32} {bPo : Nat → Int32} {bTb : Nat → Int32} {wSh : Nat → Int64} {bOs : Nat → Int32} {bOn : Nat → Int32} {yop : Int32} {bSo : Nat → Int32} {bNu : Nat → Int32} {ytr : Int32} {yiw : Int32} {wMa : Nat → Int64} {wPr : Nat → Int64} {bTp : Nat → Int32} {yln : Int32} {ypl : Int32} {yfa : Int32} {wLi : Nat → Int64} {bSi : Nat → Int32} {yhp : Int32} {yhe : Int32} {yhg : Int32} {wHs : Nat → Int64} {yhi : Int32}   (F : Fx p s m args meth c cX5_findsPolynomial 5 RX5 none) (hA : ∀ q, s.heap.size ≤ q → A q)   : ∀ (fu : Nat) (wTe : Nat → Int64) (wNx : Nat → Int64) (v1 : Int32) (z : (Nat → Int64) × (Nat → Int64)), f_X5_findsPolynomial_L38 yp ye bPo bTb fu wTe wNx v1 = some z → Ends p l e (rmOf 4 87) s m args below meth c Q cX5_findsPolynomial G A none (none) (mW G q yp ye yg bPo bTb wSh z.1 z.2 bOs bOn yop bSo bNu ytr yiw wMa wPr bTp yln ypl yfa wLi bSi yhp yhe yhg wHs yhi ++ fr) → ∀ (H : Heap) (locs : List Loc) (ls : Array Slot), Wd G s A (mW G q yp ye yg bPo bTb wSh wTe wNx bOs bOn yop bSo bNu ytr yiw wMa wPr bTp yln ypl yfa wLi bSi yhp yhe yhg wHs yhi ++ fr) H locs → lv_has ls 5 [(0, .ref (q 0)), (1, .int v1)] → W p l e (rmOf 4 87) s m args below meth c H locs 0 0 Q (F0 m 38 ls []) := by
  have hx := F.x
  have hb := F.b
  intro fu
  induction fu with
  | zero =>
    intro wTe wNx v1 z h
    cases (h : none = some z)
  | succ fu ih =>
    intro wTe wNx v1 z h hE H locs ls hw hl
    rw [f_X5_findsPolynomial_L38] at h
    refine lv_iload_n hx hb dX5_findsPolynomial_38 rfl (lv_at hl 1 rfl) ?_
    refine lv_aload_n hx hb dX5_findsPolynomial_39 rfl (lv_at hl 0 rfl) ?_
    refine gf_5_66 F hw dX5_findsPolynomial_40 ?_
    refine lv_icmp_ge (tgt := 178) hx hb dX5_findsPolynomial_43 (by decide) (fun c1 => ?_) (fun c1 => ?_)
    · replace h := stT c1 h
      obtain rfl := Option.some.inj h
      exact hE H locs _ ls hw dX5_findsPolynomial_178
    · replace h := stF c1 h
      refine lv_iload_n hx hb dX5_findsPolynomial_46 rfl (lv_at hl 1 rfl) ?_
      refine lv_iconst (v := 1) hx hb dX5_findsPolynomial_47 (by decide) ?_
      refine lv_iadd hx hb dX5_findsPolynomial_48 ?_
      refine lv_istore_n (lv' := [(2, .int (v1 + 1)), (0, .ref (q 0)), (1, .int v1)]) hx hb dX5_findsPolynomial_49 rfl hl (by decide) rfl (fun ls hl => ?_)
      exact w_X5_findsPolynomial_L50 F hA  (fun w0 w1 w2 z h hE H locs ls hw hl => ih w0 w1 w2 z h hE H locs ls hw hl) FU _ _ _ _ z h hE H locs ls hw (lv_sub hl [1, 2, 0] rfl)
def f_X5_findsPolynomial_L2 (yp : Int32) (ye : Int32) (bPo : Nat → Int32) (bTb : Nat → Int32) : Nat → (Nat → Int64) → (Nat → Int64) → Int32 → Option ((Nat → Int64) × (Nat → Int64))
  | 0, _, _, _ => none
  | fu + 1, wTe, wNx, v1 =>
    if 168 ≤ v1 then
    f_X5_findsPolynomial_L38 yp ye bPo bTb FU wTe wNx 0
    else
    if ye ≤ v1 then
    if inb v1 168 then
    f_X5_findsPolynomial_L2 yp ye bPo bTb fu (vp_updL wTe v1.toNatClampNeg 0) wNx (v1 + 1)
    else none
    else
    if inb v1 168 then
    f_X5_findsPolynomial_L2 yp ye bPo bTb fu (vp_updL wTe v1.toNatClampNeg (-1)) wNx (v1 + 1)
    else none
set_option maxHeartbeats 4000000 in
set_option maxRecDepth 100000 in
theorem w_X5_findsPolynomial_L2  {yp : Int32} {ye : Int32} {yg : Int32} {bPo : Nat → Int32} {bTb : Nat → Int32} {wSh : Nat → Int64} {bOs : Nat → Int32} {bOn : Nat → Int32} {yop : Int32} {bSo : Nat → Int32} {bNu : Nat → Int32} {ytr : Int32} {yiw : Int32} {wMa : Nat → Int64} {wPr : Nat → Int64} {bTp : Nat → Int32} {yln : Int32} {ypl : Int32} {yfa : Int32} {wLi : Nat → Int64} {bSi : Nat → Int32} {yhp : Int32} {yhe : Int32} {yhg : Int32} {wHs : Nat → Int64} {yhi : Int32}   (F : Fx p s m args meth c cX5_findsPolynomial 5 RX5 none) (hA : ∀ q, s.heap.size ≤ q → A q)   : ∀ (fu : Nat) (wTe : Nat → Int64) (wNx : Nat → Int64) (v1 : Int32) (z : (Nat → Int64) × (Nat → Int64)), f_X5_findsPolynomial_L2 yp ye bPo bTb fu wTe wNx v1 = some z → Ends p l e (rmOf 4 87) s m args below meth c Q cX5_findsPolynomial G A none (none) (mW G q yp ye yg bPo bTb wSh z.1 z.2 bOs bOn yop bSo bNu ytr yiw wMa wPr bTp yln ypl yfa wLi bSi yhp yhe yhg wHs yhi ++ fr) → ∀ (H : Heap) (locs : List Loc) (ls : Array Slot), Wd G s A (mW G q yp ye yg bPo bTb wSh wTe wNx bOs bOn yop bSo bNu ytr yiw wMa wPr bTp yln ypl yfa wLi bSi yhp yhe yhg wHs yhi ++ fr) H locs → lv_has ls 5 [(0, .ref (q 0)), (1, .int v1)] → W p l e (rmOf 4 87) s m args below meth c H locs 0 0 Q (F0 m 2 ls []) := by
  have hx := F.x
  have hb := F.b
  intro fu
  induction fu with
  | zero =>
    intro wTe wNx v1 z h
    cases (h : none = some z)
  | succ fu ih =>
    intro wTe wNx v1 z h hE H locs ls hw hl
    rw [f_X5_findsPolynomial_L2] at h
    refine lv_iload_n hx hb dX5_findsPolynomial_2 rfl (lv_at hl 1 rfl) ?_
    refine lv_sipush (v := 168) hx hb dX5_findsPolynomial_3 (by decide) ?_
    refine lv_icmp_ge (tgt := 36) hx hb dX5_findsPolynomial_6 (by decide) (fun c1 => ?_) (fun c1 => ?_)
    · replace h := stT c1 h
      refine lv_iconst (v := 0) hx hb dX5_findsPolynomial_36 (by decide) ?_
      refine lv_istore_n (lv' := [(1, .int 0), (0, .ref (q 0))]) hx hb dX5_findsPolynomial_37 rfl hl (by decide) rfl (fun ls hl => ?_)
      exact w_X5_findsPolynomial_L38 F hA  FU _ _ _ z h hE H locs ls hw (lv_sub hl [1, 0] rfl)
    · replace h := stF c1 h
      refine lv_aload_n hx hb dX5_findsPolynomial_9 rfl (lv_at hl 0 rfl) ?_
      refine gf_5_22 F hw dX5_findsPolynomial_10 ?_
      refine lv_iload_n hx hb dX5_findsPolynomial_13 rfl (lv_at hl 1 rfl) ?_
      refine lv_iload_n hx hb dX5_findsPolynomial_14 rfl (lv_at hl 1 rfl) ?_
      refine lv_aload_n hx hb dX5_findsPolynomial_15 rfl (lv_at hl 0 rfl) ?_
      refine gf_5_66 F hw dX5_findsPolynomial_16 ?_
      refine lv_icmp_ge (tgt := 28) hx hb dX5_findsPolynomial_19 (by decide) (fun c2 => ?_) (fun c2 => ?_)
      · replace h := stT c2 h
        refine lv_lconst (v := 0) hx hb dX5_findsPolynomial_28 (by decide) ?_
        obtain ⟨g3, h⟩ := stG h
        refine as_m4 F hw g3 dX5_findsPolynomial_29 (fun H locs hw => ?_)
        refine lv_iinc (v := (v1 + 1)) (lv' := [(1, .int (v1 + 1)), (0, .ref (q 0))]) hx hb dX5_findsPolynomial_30 hl (k := 1) rfl rfl (by decide) rfl (fun ls hl => ?_)
        refine lv_goto (tgt := 2) hx hb dX5_findsPolynomial_33 (by decide) ?_
        exact ih _ _ _ z h hE H locs ls hw (lv_sub hl [1, 0] rfl)
      · replace h := stF c2 h
        refine lv_ldc2 (v := -1) hx hb F.ow (F.ts _ kc_5_130) dX5_findsPolynomial_22 ?_
        refine lv_goto (tgt := 29) hx hb dX5_findsPolynomial_25 (by decide) ?_
        obtain ⟨g4, h⟩ := stG h
        refine as_m4 F hw g4 dX5_findsPolynomial_29 (fun H locs hw => ?_)
        refine lv_iinc (v := (v1 + 1)) (lv' := [(1, .int (v1 + 1)), (0, .ref (q 0))]) hx hb dX5_findsPolynomial_30 hl (k := 1) rfl rfl (by decide) rfl (fun ls hl => ?_)
        refine lv_goto (tgt := 2) hx hb dX5_findsPolynomial_33 (by decide) ?_
        exact ih _ _ _ z h hE H locs ls hw (lv_sub hl [1, 0] rfl)
def f_X5_findsPolynomial (yp : Int32) (ye : Int32) (bPo : Nat → Int32) (bTb : Nat → Int32) (wTe : Nat → Int64) (wNx : Nat → Int64) : Option ((Nat → Int64) × (Nat → Int64)) :=
  f_X5_findsPolynomial_L2 yp ye bPo bTb FU wTe wNx 0
set_option maxHeartbeats 4000000 in
set_option maxRecDepth 100000 in
theorem k_X5_findsPolynomial {l : Launch} {G : GG} {q : Nat → Nat} {fr : va_W}  {yp : Int32} {ye : Int32} {yg : Int32} {bPo : Nat → Int32} {bTb : Nat → Int32} {wSh : Nat → Int64} {wTe : Nat → Int64} {wNx : Nat → Int64} {bOs : Nat → Int32} {bOn : Nat → Int32} {yop : Int32} {bSo : Nat → Int32} {bNu : Nat → Int32} {ytr : Int32} {yiw : Int32} {wMa : Nat → Int64} {wPr : Nat → Int64} {bTp : Nat → Int32} {yln : Int32} {ypl : Int32} {yfa : Int32} {wLi : Nat → Int64} {bSi : Nat → Int32} {yhp : Int32} {yhe : Int32} {yhg : Int32} {wHs : Nat → Int64} {yhi : Int32}  {z : (Nat → Int64) × (Nat → Int64)}  (h : f_X5_findsPolynomial yp ye bPo bTb wTe wNx = some z) : Ct l G yX5_findsPolynomial cX5_findsPolynomial 5 none 4 87 [.ref (q 0)] (mW G q yp ye yg bPo bTb wSh wTe wNx bOs bOn yop bSo bNu ytr yiw wMa wPr bTp yln ypl yfa wLi bSi yhp yhe yhg wHs yhi ++ fr) (none) (mW G q yp ye yg bPo bTb wSh z.1 z.2 bOs bOn yop bSo bNu ytr yiw wMa wPr bTp yln ypl yfa wLi bSi yhp yhe yhg wHs yhi ++ fr) := by
  refine Ct.of (by decide +kernel) (Nat.le_of_ble_eq_true rfl) trivial ?_
  intro p e s m args below meth c Q A ls F hw hA hE hl
  have hx := F.x
  have hb := F.b
  unfold f_X5_findsPolynomial at h
  obtain ⟨H, hH⟩ : ∃ H, H = s.heap := ⟨_, rfl⟩
  obtain ⟨locs, hlo⟩ : ∃ locs : List Loc, locs = [] := ⟨_, rfl⟩
  rw [← hH, ← hlo] at hw ⊢
  have hl : lv_has ls 5 [(0, .ref (q 0))] := hl
  refine lv_iconst (v := 0) hx hb dX5_findsPolynomial_0 (by decide) ?_
  refine lv_istore_n (lv' := [(1, .int 0), (0, .ref (q 0))]) hx hb dX5_findsPolynomial_1 rfl hl (by decide) rfl (fun ls hl => ?_)
  exact w_X5_findsPolynomial_L2 F hA  FU _ _ _ z h hE H locs ls hw (lv_sub hl [1, 0] rfl)
end
theorem dX5_polynomial_0 : decode cX5_polynomial 0 = .ok (.iload_n 1, 1) := by decide +kernel
theorem dX5_polynomial_1 : decode cX5_polynomial 1 = .ok (.i2l, 1) := by decide +kernel
theorem dX5_polynomial_2 : decode cX5_polynomial 2 = .ok (.lconst 0, 1) := by decide +kernel
theorem dX5_polynomial_3 : decode cX5_polynomial 3 = .ok (.aload_n 0, 1) := by decide +kernel
theorem dX5_polynomial_4 : decode cX5_polynomial 4 = .ok (.getfield 66, 3) := by decide +kernel
theorem dX5_polynomial_7 : decode cX5_polynomial 7 = .ok (.i2l, 1) := by decide +kernel
theorem dX5_polynomial_8 : decode cX5_polynomial 8 = .ok (.invokestatic 90, 3) := by decide +kernel
theorem dX5_polynomial_11 : decode cX5_polynomial 11 = .ok (.ifCond .ne 7, 3) := by decide +kernel
theorem dX5_polynomial_14 : decode cX5_polynomial 14 = .ok (.ldc2_w 138, 3) := by decide +kernel
theorem dX5_polynomial_17 : decode cX5_polynomial 17 = .ok (.lreturn, 1) := by decide +kernel
theorem dX5_polynomial_18 : decode cX5_polynomial 18 = .ok (.aload_n 0, 1) := by decide +kernel
theorem dX5_polynomial_19 : decode cX5_polynomial 19 = .ok (.invokevirtual 140, 3) := by decide +kernel
theorem dX5_polynomial_22 : decode cX5_polynomial 22 = .ok (.aload_n 0, 1) := by decide +kernel
theorem dX5_polynomial_23 : decode cX5_polynomial 23 = .ok (.getfield 22, 3) := by decide +kernel
theorem dX5_polynomial_26 : decode cX5_polynomial 26 = .ok (.bipush 12, 2) := by decide +kernel
theorem dX5_polynomial_28 : decode cX5_polynomial 28 = .ok (.iload_n 1, 1) := by decide +kernel
theorem dX5_polynomial_29 : decode cX5_polynomial 29 = .ok (.imul, 1) := by decide +kernel
theorem dX5_polynomial_30 : decode cX5_polynomial 30 = .ok (.laload, 1) := by decide +kernel
theorem dX5_polynomial_31 : decode cX5_polynomial 31 = .ok (.lneg, 1) := by decide +kernel
theorem dX5_polynomial_32 : decode cX5_polynomial 32 = .ok (.lreturn, 1) := by decide +kernel
section
variable {p : Program} {l : Launch} {e : Env} {s : State} {m : MethodId} {args : Array Value} {below : List Frame} {meth : Method} {c : Code} {Q : State → Prop} {G : GG} {A : Nat → Prop} {q : Nat → Nat} {fr : va_W}
def f_X5_polynomial (yp : Int32) (ye : Int32) (bPo : Nat → Int32) (bTb : Nat → Int32) (wTe : Nat → Int64) (wNx : Nat → Int64) (v1 : Int32) : Option (Int64 × (Nat → Int64) × (Nat → Int64)) :=
  (f_X5_in v1.toInt64 0 ye.toInt64).bind fun z1 =>
  if z1 = 0 then
  some ((-9223372036854775808), wTe, wNx)
  else
  (f_X5_findsPolynomial yp ye bPo bTb wTe wNx).bind fun z3 =>
  if inb (12 * v1) 168 then
  some ((-(z3.1 (12 * v1).toNatClampNeg)), z3.1, z3.2)
  else none
set_option maxHeartbeats 4000000 in
set_option maxRecDepth 100000 in
theorem k_X5_polynomial {l : Launch} {G : GG} {q : Nat → Nat} {fr : va_W}  {yp : Int32} {ye : Int32} {yg : Int32} {bPo : Nat → Int32} {bTb : Nat → Int32} {wSh : Nat → Int64} {wTe : Nat → Int64} {wNx : Nat → Int64} {bOs : Nat → Int32} {bOn : Nat → Int32} {yop : Int32} {bSo : Nat → Int32} {bNu : Nat → Int32} {ytr : Int32} {yiw : Int32} {wMa : Nat → Int64} {wPr : Nat → Int64} {bTp : Nat → Int32} {yln : Int32} {ypl : Int32} {yfa : Int32} {wLi : Nat → Int64} {bSi : Nat → Int32} {yhp : Int32} {yhe : Int32} {yhg : Int32} {wHs : Nat → Int64} {yhi : Int32} {v1 : Int32} {z : Int64 × (Nat → Int64) × (Nat → Int64)}  (h : f_X5_polynomial yp ye bPo bTb wTe wNx v1 = some z) : Ct l G yX5_polynomial cX5_polynomial 2 (some .long) 5 111 [.ref (q 0), .int v1] (mW G q yp ye yg bPo bTb wSh wTe wNx bOs bOn yop bSo bNu ytr yiw wMa wPr bTp yln ypl yfa wLi bSi yhp yhe yhg wHs yhi ++ fr) (some (.long z.1)) (mW G q yp ye yg bPo bTb wSh z.2.1 z.2.2 bOs bOn yop bSo bNu ytr yiw wMa wPr bTp yln ypl yfa wLi bSi yhp yhe yhg wHs yhi ++ fr) := by
  refine Ct.of (by decide +kernel) (Nat.le_of_ble_eq_true rfl) trivial ?_
  intro p e s m args below meth c Q A ls F hw hA hE hl
  have hx := F.x
  have hb := F.b
  unfold f_X5_polynomial at h
  obtain ⟨H, hH⟩ : ∃ H, H = s.heap := ⟨_, rfl⟩
  obtain ⟨locs, hlo⟩ : ∃ locs : List Loc, locs = [] := ⟨_, rfl⟩
  rw [← hH, ← hlo] at hw ⊢
  have hl : lv_has ls 2 [(0, .ref (q 0)), (1, .int v1)] := hl
  refine lv_iload_n hx hb dX5_polynomial_0 rfl (lv_at hl 1 rfl) ?_
  refine lv_i2l (v := v1.toInt64) hx hb dX5_polynomial_1 rfl ?_
  refine lv_lconst (v := 0) hx hb dX5_polynomial_2 (by decide) ?_
  refine lv_aload_n hx hb dX5_polynomial_3 rfl (lv_at hl 0 rfl) ?_
  refine gf_5_66 F hw dX5_polynomial_4 ?_
  refine lv_i2l (v := ye.toInt64) hx hb dX5_polynomial_7 rfl ?_
  obtain ⟨z1, hz1, h⟩ := stB h
  refine ctS (av := [.long v1.toInt64, .long 0, .long ye.toInt64]) (st0 := ([] : List Value)) (st1 := ([.int z1] : List Value)) F hw hA (k_X5_in hz1) kl_5_90 kd_X5_in rfl ⟨by decide, by decide⟩ hl.1 rfl (Nat.le_of_ble_eq_true rfl) dX5_polynomial_8 rfl (fun H locs hw => ?_)
  refine lv_if_ne (tgt := 18) hx hb dX5_polynomial_11 (by decide) (fun c2 => ?_) (fun c2 => ?_)
  · replace h := stF c2 h
    refine lv_aload_n hx hb dX5_polynomial_18 rfl (lv_at hl 0 rfl) ?_
    obtain ⟨z3, hz3, h⟩ := stB h
    refine ctV (av := []) (st0 := ([] : List Value)) (st1 := ([] : List Value)) F hw hA (k_X5_findsPolynomial hz3) kl_5_140 kd_X5_findsPolynomial rfl ⟨by decide, by decide⟩ 0 rfl rfl hl.1 rfl (Nat.le_of_ble_eq_true rfl) dX5_polynomial_19 rfl (fun H locs hw => ?_)
    refine lv_aload_n hx hb dX5_polynomial_22 rfl (lv_at hl 0 rfl) ?_
    refine gf_5_22 F hw dX5_polynomial_23 ?_
    refine lv_bipush (v := 12) hx hb dX5_polynomial_26 (by decide) ?_
    refine lv_iload_n hx hb dX5_polynomial_28 rfl (lv_at hl 1 rfl) ?_
    refine lv_imul hx hb dX5_polynomial_29 ?_
    obtain ⟨g4, h⟩ := stG h
    refine al_m4 F hw g4 dX5_polynomial_30 ?_
    refine lv_lneg hx hb dX5_polynomial_31 ?_
    obtain rfl := Option.some.inj h
    exact hE H locs _ ls hw dX5_polynomial_32
  · replace h := stT c2 h
    refine lv_ldc2 (v := -9223372036854775808) hx hb F.ow (F.ts _ kc_5_138) dX5_polynomial_14 ?_
    obtain rfl := Option.some.inj h
    exact hE H locs _ ls hw dX5_polynomial_17
end
theorem dX5_roots_0 : decode cX5_roots 0 = .ok (.iload_n 1, 1) := by decide +kernel
theorem dX5_roots_1 : decode cX5_roots 1 = .ok (.i2l, 1) := by decide +kernel
theorem dX5_roots_2 : decode cX5_roots 2 = .ok (.ldc2_w 143, 3) := by decide +kernel
theorem dX5_roots_5 : decode cX5_roots 5 = .ok (.ldc2_w 145, 3) := by decide +kernel
theorem dX5_roots_8 : decode cX5_roots 8 = .ok (.invokestatic 90, 3) := by decide +kernel
theorem dX5_roots_11 : decode cX5_roots 11 = .ok (.ifCond .ne 6, 3) := by decide +kernel
theorem dX5_roots_14 : decode cX5_roots 14 = .ok (.bipush (-2), 2) := by decide +kernel
theorem dX5_roots_16 : decode cX5_roots 16 = .ok (.ireturn, 1) := by decide +kernel
theorem dX5_roots_17 : decode cX5_roots 17 = .ok (.aload_n 0, 1) := by decide +kernel
theorem dX5_roots_18 : decode cX5_roots 18 = .ok (.invokevirtual 140, 3) := by decide +kernel
theorem dX5_roots_21 : decode cX5_roots 21 = .ok (.iconst 0, 1) := by decide +kernel
theorem dX5_roots_22 : decode cX5_roots 22 = .ok (.istore_n 2, 1) := by decide +kernel
theorem dX5_roots_23 : decode cX5_roots 23 = .ok (.iconst 0, 1) := by decide +kernel
theorem dX5_roots_24 : decode cX5_roots 24 = .ok (.istore_n 3, 1) := by decide +kernel
theorem dX5_roots_25 : decode cX5_roots 25 = .ok (.iload_n 3, 1) := by decide +kernel
theorem dX5_roots_26 : decode cX5_roots 26 = .ok (.iload_n 1, 1) := by decide +kernel
theorem dX5_roots_27 : decode cX5_roots 27 = .ok (.if_icmp .ge 68, 3) := by decide +kernel
theorem dX5_roots_30 : decode cX5_roots 30 = .ok (.lconst 0, 1) := by decide +kernel
theorem dX5_roots_31 : decode cX5_roots 31 = .ok (.lstore 4, 2) := by decide +kernel
theorem dX5_roots_33 : decode cX5_roots 33 = .ok (.aload_n 0, 1) := by decide +kernel
theorem dX5_roots_34 : decode cX5_roots 34 = .ok (.getfield 66, 3) := by decide +kernel
theorem dX5_roots_37 : decode cX5_roots 37 = .ok (.istore 6, 2) := by decide +kernel
theorem dX5_roots_39 : decode cX5_roots 39 = .ok (.iload 6, 2) := by decide +kernel
theorem dX5_roots_41 : decode cX5_roots 41 = .ok (.ifCond .lt 30, 3) := by decide +kernel
theorem dX5_roots_44 : decode cX5_roots 44 = .ok (.lload 4, 2) := by decide +kernel
theorem dX5_roots_46 : decode cX5_roots 46 = .ok (.iload_n 3, 1) := by decide +kernel
theorem dX5_roots_47 : decode cX5_roots 47 = .ok (.i2l, 1) := by decide +kernel
theorem dX5_roots_48 : decode cX5_roots 48 = .ok (.lmul, 1) := by decide +kernel
theorem dX5_roots_49 : decode cX5_roots 49 = .ok (.aload_n 0, 1) := by decide +kernel
theorem dX5_roots_50 : decode cX5_roots 50 = .ok (.getfield 22, 3) := by decide +kernel
theorem dX5_roots_53 : decode cX5_roots 53 = .ok (.bipush 12, 2) := by decide +kernel
theorem dX5_roots_55 : decode cX5_roots 55 = .ok (.iload 6, 2) := by decide +kernel
theorem dX5_roots_57 : decode cX5_roots 57 = .ok (.imul, 1) := by decide +kernel
theorem dX5_roots_58 : decode cX5_roots 58 = .ok (.laload, 1) := by decide +kernel
theorem dX5_roots_59 : decode cX5_roots 59 = .ok (.lsub, 1) := by decide +kernel
theorem dX5_roots_60 : decode cX5_roots 60 = .ok (.iload_n 1, 1) := by decide +kernel
theorem dX5_roots_61 : decode cX5_roots 61 = .ok (.i2l, 1) := by decide +kernel
theorem dX5_roots_62 : decode cX5_roots 62 = .ok (.lrem, 1) := by decide +kernel
theorem dX5_roots_63 : decode cX5_roots 63 = .ok (.lstore 4, 2) := by decide +kernel
theorem dX5_roots_65 : decode cX5_roots 65 = .ok (.iinc 6 (-1), 3) := by decide +kernel
theorem dX5_roots_68 : decode cX5_roots 68 = .ok (.goto (-29), 3) := by decide +kernel
theorem dX5_roots_71 : decode cX5_roots 71 = .ok (.iload_n 2, 1) := by decide +kernel
theorem dX5_roots_72 : decode cX5_roots 72 = .ok (.lload 4, 2) := by decide +kernel
theorem dX5_roots_74 : decode cX5_roots 74 = .ok (.lconst 0, 1) := by decide +kernel
theorem dX5_roots_75 : decode cX5_roots 75 = .ok (.lcmp, 1) := by decide +kernel
theorem dX5_roots_76 : decode cX5_roots 76 = .ok (.ifCond .ne 7, 3) := by decide +kernel
theorem dX5_roots_79 : decode cX5_roots 79 = .ok (.iconst 1, 1) := by decide +kernel
theorem dX5_roots_80 : decode cX5_roots 80 = .ok (.goto 4, 3) := by decide +kernel
theorem dX5_roots_83 : decode cX5_roots 83 = .ok (.iconst 0, 1) := by decide +kernel
theorem dX5_roots_84 : decode cX5_roots 84 = .ok (.invokestatic 103, 3) := by decide +kernel
theorem dX5_roots_87 : decode cX5_roots 87 = .ok (.iadd, 1) := by decide +kernel
theorem dX5_roots_88 : decode cX5_roots 88 = .ok (.istore_n 2, 1) := by decide +kernel
theorem dX5_roots_89 : decode cX5_roots 89 = .ok (.iinc 3 1, 3) := by decide +kernel
theorem dX5_roots_92 : decode cX5_roots 92 = .ok (.goto (-67), 3) := by decide +kernel
theorem dX5_roots_95 : decode cX5_roots 95 = .ok (.iload_n 2, 1) := by decide +kernel
theorem dX5_roots_96 : decode cX5_roots 96 = .ok (.ireturn, 1) := by decide +kernel
section
variable {p : Program} {l : Launch} {e : Env} {s : State} {m : MethodId} {args : Array Value} {below : List Frame} {meth : Method} {c : Code} {Q : State → Prop} {G : GG} {A : Nat → Prop} {q : Nat → Nat} {fr : va_W}
def f_X5_roots_L39 (yp : Int32) (ye : Int32) (bPo : Nat → Int32) (bTb : Nat → Int32) (v1 : Int32) (KK : (Nat → Int64) → (Nat → Int64) → Int32 → Int32 → Option (Int32 × (Nat → Int64) × (Nat → Int64))) : Nat → (Nat → Int64) → (Nat → Int64) → Int32 → Int32 → Int64 → Int32 → Option (Int32 × (Nat → Int64) × (Nat → Int64))
  | 0, _, _, _, _, _, _ => none
  | fu + 1, wTe, wNx, v2, v3, v4, v6 =>
    if v6 < 0 then
    if (lg_cmp v4 0) = 0 then
    (f_X5_bit 1).bind fun z4 =>
    KK wTe wNx (v2 + z4) (v3 + 1)
    else
    (f_X5_bit 0).bind fun z3 =>
    KK wTe wNx (v2 + z3) (v3 + 1)
    else
    if inb (12 * v6) 168 then
    if v1.toInt64 = 0 then none else
    f_X5_roots_L39 yp ye bPo bTb v1 KK fu wTe wNx v2 v3 (((v4 * v3.toInt64) - (wTe (12 * v6).toNatClampNeg)) - ((v4 * v3.toInt64) - (wTe (12 * v6).toNatClampNeg)) / v1.toInt64 * v1.toInt64) (v6 + (-1))
    else none
set_option maxHeartbeats 4000000 in
set_option maxRecDepth 100000 in
theorem w_X5_roots_L39  {yp : Int32} {ye : Int32} {yg : Int32} {bPo : Nat → Int32} {bTb : Nat → Int32} {wSh : Nat → Int64} {bOs : Nat → Int32} {bOn : Nat → Int32} {yop : Int32} {bSo : Nat → Int32} {bNu : Nat → Int32} {ytr : Int32} {yiw : Int32} {wMa : Nat → Int64} {wPr : Nat → Int64} {bTp : Nat → Int32} {yln : Int32} {ypl : Int32} {yfa : Int32} {wLi : Nat → Int64} {bSi : Nat → Int32} {yhp : Int32} {yhe : Int32} {yhg : Int32} {wHs : Nat → Int64} {yhi : Int32} {v1 : Int32} {KK : (Nat → Int64) → (Nat → Int64) → Int32 → Int32 → Option (Int32 × (Nat → Int64) × (Nat → Int64))} (F : Fx p s m args meth c cX5_roots 7 RX5 (some .int)) (hA : ∀ q, s.heap.size ≤ q → A q)  (hK : ∀ (wTe : Nat → Int64) (wNx : Nat → Int64) (v2 : Int32) (v3 : Int32) (z : Int32 × (Nat → Int64) × (Nat → Int64)), KK wTe wNx v2 v3 = some z → Ends p l e (rmOf 5 111) s m args below meth c Q cX5_roots G A (some .int) (some (.int z.1)) (mW G q yp ye yg bPo bTb wSh z.2.1 z.2.2 bOs bOn yop bSo bNu ytr yiw wMa wPr bTp yln ypl yfa wLi bSi yhp yhe yhg wHs yhi ++ fr) → ∀ (H : Heap) (locs : List Loc) (ls : Array Slot), Wd G s A (mW G q yp ye yg bPo bTb wSh wTe wNx bOs bOn yop bSo bNu ytr yiw wMa wPr bTp yln ypl yfa wLi bSi yhp yhe yhg wHs yhi ++ fr) H locs → lv_has ls 7 [(0, .ref (q 0)), (1, .int v1), (2, .int v2), (3, .int v3)] → W p l e (rmOf 5 111) s m args below meth c H locs 0 0 Q (F0 m 25 ls [])) : ∀ (fu : Nat) (wTe : Nat → Int64) (wNx : Nat → Int64) (v2 : Int32) (v3 : Int32) (v4 : Int64) (v6 : Int32) (z : Int32 × (Nat → Int64) × (Nat → Int64)), f_X5_roots_L39 yp ye bPo bTb v1 KK fu wTe wNx v2 v3 v4 v6 = some z → Ends p l e (rmOf 5 111) s m args below meth c Q cX5_roots G A (some .int) (some (.int z.1)) (mW G q yp ye yg bPo bTb wSh z.2.1 z.2.2 bOs bOn yop bSo bNu ytr yiw wMa wPr bTp yln ypl yfa wLi bSi yhp yhe yhg wHs yhi ++ fr) → ∀ (H : Heap) (locs : List Loc) (ls : Array Slot), Wd G s A (mW G q yp ye yg bPo bTb wSh wTe wNx bOs bOn yop bSo bNu ytr yiw wMa wPr bTp yln ypl yfa wLi bSi yhp yhe yhg wHs yhi ++ fr) H locs → lv_has ls 7 [(0, .ref (q 0)), (1, .int v1), (2, .int v2), (3, .int v3), (4, .long v4), (6, .int v6)] → W p l e (rmOf 5 111) s m args below meth c H locs 0 0 Q (F0 m 39 ls []) := by
  have hx := F.x
  have hb := F.b
  intro fu
  induction fu with
  | zero =>
    intro wTe wNx v2 v3 v4 v6 z h
    cases (h : none = some z)
  | succ fu ih =>
    intro wTe wNx v2 v3 v4 v6 z h hE H locs ls hw hl
    rw [f_X5_roots_L39] at h
    refine lv_iload hx hb dX5_roots_39 (lv_at hl 5 rfl) ?_
    refine lv_if_lt (tgt := 71) hx hb dX5_roots_41 (by decide) (fun c1 => ?_) (fun c1 => ?_)
    · replace h := stT c1 h
      refine lv_iload_n hx hb dX5_roots_71 rfl (lv_at hl 2 rfl) ?_
      refine lv_lload hx hb dX5_roots_72 (lv_at hl 4 rfl) ?_
      refine lv_lconst (v := 0) hx hb dX5_roots_74 (by decide) ?_
      refine W.lcmp hx hb dX5_roots_75 ?_
      refine lv_if_ne (tgt := 83) hx hb dX5_roots_76 (by decide) (fun c2 => ?_) (fun c2 => ?_)
      · replace h := stF c2 h
        refine lv_iconst (v := 0) hx hb dX5_roots_83 (by decide) ?_
        obtain ⟨z3, hz3, h⟩ := stB h
        refine ctS (av := [.int 0]) (st0 := ([.int v2] : List Value)) (st1 := ([.int z3, .int v2] : List Value)) F hw hA (k_X5_bit hz3) kl_5_103 kd_X5_bit rfl ⟨by decide, by decide⟩ hl.1 rfl (Nat.le_of_ble_eq_true rfl) dX5_roots_84 rfl (fun H locs hw => ?_)
        refine lv_iadd hx hb dX5_roots_87 ?_
        refine lv_istore_n (lv' := [(2, .int (v2 + z3)), (0, .ref (q 0)), (1, .int v1), (3, .int v3), (4, .long v4), (6, .int v6)]) hx hb dX5_roots_88 rfl hl (by decide) rfl (fun ls hl => ?_)
        refine lv_iinc (v := (v3 + 1)) (lv' := [(3, .int (v3 + 1)), (2, .int (v2 + z3)), (0, .ref (q 0)), (1, .int v1), (4, .long v4), (6, .int v6)]) hx hb dX5_roots_89 hl (k := 3) rfl rfl (by decide) rfl (fun ls hl => ?_)
        refine lv_goto (tgt := 25) hx hb dX5_roots_92 (by decide) ?_
        exact hK _ _ _ _ z h hE H locs ls hw (lv_sub hl [2, 3, 1, 0] rfl)
      · replace h := stT c2 h
        refine lv_iconst (v := 1) hx hb dX5_roots_79 (by decide) ?_
        refine lv_goto (tgt := 84) hx hb dX5_roots_80 (by decide) ?_
        obtain ⟨z4, hz4, h⟩ := stB h
        refine ctS (av := [.int 1]) (st0 := ([.int v2] : List Value)) (st1 := ([.int z4, .int v2] : List Value)) F hw hA (k_X5_bit hz4) kl_5_103 kd_X5_bit rfl ⟨by decide, by decide⟩ hl.1 rfl (Nat.le_of_ble_eq_true rfl) dX5_roots_84 rfl (fun H locs hw => ?_)
        refine lv_iadd hx hb dX5_roots_87 ?_
        refine lv_istore_n (lv' := [(2, .int (v2 + z4)), (0, .ref (q 0)), (1, .int v1), (3, .int v3), (4, .long v4), (6, .int v6)]) hx hb dX5_roots_88 rfl hl (by decide) rfl (fun ls hl => ?_)
        refine lv_iinc (v := (v3 + 1)) (lv' := [(3, .int (v3 + 1)), (2, .int (v2 + z4)), (0, .ref (q 0)), (1, .int v1), (4, .long v4), (6, .int v6)]) hx hb dX5_roots_89 hl (k := 3) rfl rfl (by decide) rfl (fun ls hl => ?_)
        refine lv_goto (tgt := 25) hx hb dX5_roots_92 (by decide) ?_
        exact hK _ _ _ _ z h hE H locs ls hw (lv_sub hl [2, 3, 1, 0] rfl)
    · replace h := stF c1 h
      refine lv_lload hx hb dX5_roots_44 (lv_at hl 4 rfl) ?_
      refine lv_iload_n hx hb dX5_roots_46 rfl (lv_at hl 3 rfl) ?_
      refine lv_i2l (v := v3.toInt64) hx hb dX5_roots_47 rfl ?_
      refine lv_lmul hx hb dX5_roots_48 ?_
      refine lv_aload_n hx hb dX5_roots_49 rfl (lv_at hl 0 rfl) ?_
      refine gf_5_22 F hw dX5_roots_50 ?_
      refine lv_bipush (v := 12) hx hb dX5_roots_53 (by decide) ?_
      refine lv_iload hx hb dX5_roots_55 (lv_at hl 5 rfl) ?_
      refine lv_imul hx hb dX5_roots_57 ?_
      obtain ⟨g5, h⟩ := stG h
      refine al_m4 F hw g5 dX5_roots_58 ?_
      refine lv_lsub hx hb dX5_roots_59 ?_
      refine lv_iload_n hx hb dX5_roots_60 rfl (lv_at hl 1 rfl) ?_
      refine lv_i2l (v := v1.toInt64) hx hb dX5_roots_61 rfl ?_
      obtain ⟨g6, h⟩ := stD h
      refine lv_lrem hx hb dX5_roots_62 g6 ?_
      refine lv_lstore (lv' := [(4, .long (((v4 * v3.toInt64) - (wTe (12 * v6).toNatClampNeg)) - ((v4 * v3.toInt64) - (wTe (12 * v6).toNatClampNeg)) / v1.toInt64 * v1.toInt64)), (0, .ref (q 0)), (1, .int v1), (2, .int v2), (3, .int v3), (6, .int v6)]) hx hb dX5_roots_63 hl (by decide) rfl (fun ls hl => ?_)
      refine lv_iinc (v := (v6 + (-1))) (lv' := [(6, .int (v6 + (-1))), (4, .long (((v4 * v3.toInt64) - (wTe (12 * v6).toNatClampNeg)) - ((v4 * v3.toInt64) - (wTe (12 * v6).toNatClampNeg)) / v1.toInt64 * v1.toInt64)), (0, .ref (q 0)), (1, .int v1), (2, .int v2), (3, .int v3)]) hx hb dX5_roots_65 hl (k := 5) rfl rfl (by decide) rfl (fun ls hl => ?_)
      refine lv_goto (tgt := 39) hx hb dX5_roots_68 (by decide) ?_
      exact ih _ _ _ _ _ _ z h hE H locs ls hw (lv_sub hl [2, 3, 4, 5, 1, 0] rfl)
def f_X5_roots_L25 (yp : Int32) (ye : Int32) (bPo : Nat → Int32) (bTb : Nat → Int32) (v1 : Int32) : Nat → (Nat → Int64) → (Nat → Int64) → Int32 → Int32 → Option (Int32 × (Nat → Int64) × (Nat → Int64))
  | 0, _, _, _, _ => none
  | fu + 1, wTe, wNx, v2, v3 =>
    if v1 ≤ v3 then
    some (v2, wTe, wNx)
    else
    f_X5_roots_L39 yp ye bPo bTb v1 (fun w0 w1 w2 w3 => f_X5_roots_L25 yp ye bPo bTb v1 fu w0 w1 w2 w3) FU wTe wNx v2 v3 0 ye
set_option maxHeartbeats 4000000 in
set_option maxRecDepth 100000 in
theorem w_X5_roots_L25  {yp : Int32} {ye : Int32} {yg : Int32} {bPo : Nat → Int32} {bTb : Nat → Int32} {wSh : Nat → Int64} {bOs : Nat → Int32} {bOn : Nat → Int32} {yop : Int32} {bSo : Nat → Int32} {bNu : Nat → Int32} {ytr : Int32} {yiw : Int32} {wMa : Nat → Int64} {wPr : Nat → Int64} {bTp : Nat → Int32} {yln : Int32} {ypl : Int32} {yfa : Int32} {wLi : Nat → Int64} {bSi : Nat → Int32} {yhp : Int32} {yhe : Int32} {yhg : Int32} {wHs : Nat → Int64} {yhi : Int32} {v1 : Int32}  (F : Fx p s m args meth c cX5_roots 7 RX5 (some .int)) (hA : ∀ q, s.heap.size ≤ q → A q)   : ∀ (fu : Nat) (wTe : Nat → Int64) (wNx : Nat → Int64) (v2 : Int32) (v3 : Int32) (z : Int32 × (Nat → Int64) × (Nat → Int64)), f_X5_roots_L25 yp ye bPo bTb v1 fu wTe wNx v2 v3 = some z → Ends p l e (rmOf 5 111) s m args below meth c Q cX5_roots G A (some .int) (some (.int z.1)) (mW G q yp ye yg bPo bTb wSh z.2.1 z.2.2 bOs bOn yop bSo bNu ytr yiw wMa wPr bTp yln ypl yfa wLi bSi yhp yhe yhg wHs yhi ++ fr) → ∀ (H : Heap) (locs : List Loc) (ls : Array Slot), Wd G s A (mW G q yp ye yg bPo bTb wSh wTe wNx bOs bOn yop bSo bNu ytr yiw wMa wPr bTp yln ypl yfa wLi bSi yhp yhe yhg wHs yhi ++ fr) H locs → lv_has ls 7 [(0, .ref (q 0)), (1, .int v1), (2, .int v2), (3, .int v3)] → W p l e (rmOf 5 111) s m args below meth c H locs 0 0 Q (F0 m 25 ls []) := by
  have hx := F.x
  have hb := F.b
  intro fu
  induction fu with
  | zero =>
    intro wTe wNx v2 v3 z h
    cases (h : none = some z)
  | succ fu ih =>
    intro wTe wNx v2 v3 z h hE H locs ls hw hl
    rw [f_X5_roots_L25] at h
    refine lv_iload_n hx hb dX5_roots_25 rfl (lv_at hl 3 rfl) ?_
    refine lv_iload_n hx hb dX5_roots_26 rfl (lv_at hl 1 rfl) ?_
    refine lv_icmp_ge (tgt := 95) hx hb dX5_roots_27 (by decide) (fun c1 => ?_) (fun c1 => ?_)
    · replace h := stT c1 h
      refine lv_iload_n hx hb dX5_roots_95 rfl (lv_at hl 2 rfl) ?_
      obtain rfl := Option.some.inj h
      exact hE H locs _ ls hw dX5_roots_96
    · replace h := stF c1 h
      refine lv_lconst (v := 0) hx hb dX5_roots_30 (by decide) ?_
      refine lv_lstore (lv' := [(4, .long 0), (0, .ref (q 0)), (1, .int v1), (2, .int v2), (3, .int v3)]) hx hb dX5_roots_31 hl (by decide) rfl (fun ls hl => ?_)
      refine lv_aload_n hx hb dX5_roots_33 rfl (lv_at hl 1 rfl) ?_
      refine gf_5_66 F hw dX5_roots_34 ?_
      refine lv_istore (lv' := [(6, .int ye), (4, .long 0), (0, .ref (q 0)), (1, .int v1), (2, .int v2), (3, .int v3)]) hx hb dX5_roots_37 hl (by decide) rfl (fun ls hl => ?_)
      exact w_X5_roots_L39 F hA  (fun w0 w1 w2 w3 z h hE H locs ls hw hl => ih w0 w1 w2 w3 z h hE H locs ls hw hl) FU _ _ _ _ _ _ z h hE H locs ls hw (lv_sub hl [2, 3, 4, 5, 1, 0] rfl)
def f_X5_roots (yp : Int32) (ye : Int32) (bPo : Nat → Int32) (bTb : Nat → Int32) (wTe : Nat → Int64) (wNx : Nat → Int64) (v1 : Int32) : Option (Int32 × (Nat → Int64) × (Nat → Int64)) :=
  (f_X5_in v1.toInt64 2 97).bind fun z1 =>
  if z1 = 0 then
  some ((-2), wTe, wNx)
  else
  (f_X5_findsPolynomial yp ye bPo bTb wTe wNx).bind fun z3 =>
  f_X5_roots_L25 yp ye bPo bTb v1 FU z3.1 z3.2 0 0
set_option maxHeartbeats 4000000 in
set_option maxRecDepth 100000 in
theorem k_X5_roots {l : Launch} {G : GG} {q : Nat → Nat} {fr : va_W}  {yp : Int32} {ye : Int32} {yg : Int32} {bPo : Nat → Int32} {bTb : Nat → Int32} {wSh : Nat → Int64} {wTe : Nat → Int64} {wNx : Nat → Int64} {bOs : Nat → Int32} {bOn : Nat → Int32} {yop : Int32} {bSo : Nat → Int32} {bNu : Nat → Int32} {ytr : Int32} {yiw : Int32} {wMa : Nat → Int64} {wPr : Nat → Int64} {bTp : Nat → Int32} {yln : Int32} {ypl : Int32} {yfa : Int32} {wLi : Nat → Int64} {bSi : Nat → Int32} {yhp : Int32} {yhe : Int32} {yhg : Int32} {wHs : Nat → Int64} {yhi : Int32} {v1 : Int32} {z : Int32 × (Nat → Int64) × (Nat → Int64)}  (h : f_X5_roots yp ye bPo bTb wTe wNx v1 = some z) : Ct l G yX5_roots cX5_roots 7 (some .int) 5 111 [.ref (q 0), .int v1] (mW G q yp ye yg bPo bTb wSh wTe wNx bOs bOn yop bSo bNu ytr yiw wMa wPr bTp yln ypl yfa wLi bSi yhp yhe yhg wHs yhi ++ fr) (some (.int z.1)) (mW G q yp ye yg bPo bTb wSh z.2.1 z.2.2 bOs bOn yop bSo bNu ytr yiw wMa wPr bTp yln ypl yfa wLi bSi yhp yhe yhg wHs yhi ++ fr) := by
  refine Ct.of (by decide +kernel) (Nat.le_of_ble_eq_true rfl) trivial ?_
  intro p e s m args below meth c Q A ls F hw hA hE hl
  have hx := F.x
  have hb := F.b
  unfold f_X5_roots at h
  obtain ⟨H, hH⟩ : ∃ H, H = s.heap := ⟨_, rfl⟩
  obtain ⟨locs, hlo⟩ : ∃ locs : List Loc, locs = [] := ⟨_, rfl⟩
  rw [← hH, ← hlo] at hw ⊢
  have hl : lv_has ls 7 [(0, .ref (q 0)), (1, .int v1)] := hl
  refine lv_iload_n hx hb dX5_roots_0 rfl (lv_at hl 1 rfl) ?_
  refine lv_i2l (v := v1.toInt64) hx hb dX5_roots_1 rfl ?_
  refine lv_ldc2 (v := 2) hx hb F.ow (F.ts _ kc_5_143) dX5_roots_2 ?_
  refine lv_ldc2 (v := 97) hx hb F.ow (F.ts _ kc_5_145) dX5_roots_5 ?_
  obtain ⟨z1, hz1, h⟩ := stB h
  refine ctS (av := [.long v1.toInt64, .long 2, .long 97]) (st0 := ([] : List Value)) (st1 := ([.int z1] : List Value)) F hw hA (k_X5_in hz1) kl_5_90 kd_X5_in rfl ⟨by decide, by decide⟩ hl.1 rfl (Nat.le_of_ble_eq_true rfl) dX5_roots_8 rfl (fun H locs hw => ?_)
  refine lv_if_ne (tgt := 17) hx hb dX5_roots_11 (by decide) (fun c2 => ?_) (fun c2 => ?_)
  · replace h := stF c2 h
    refine lv_aload_n hx hb dX5_roots_17 rfl (lv_at hl 0 rfl) ?_
    obtain ⟨z3, hz3, h⟩ := stB h
    refine ctV (av := []) (st0 := ([] : List Value)) (st1 := ([] : List Value)) F hw hA (k_X5_findsPolynomial hz3) kl_5_140 kd_X5_findsPolynomial rfl ⟨by decide, by decide⟩ 0 rfl rfl hl.1 rfl (Nat.le_of_ble_eq_true rfl) dX5_roots_18 rfl (fun H locs hw => ?_)
    refine lv_iconst (v := 0) hx hb dX5_roots_21 (by decide) ?_
    refine lv_istore_n (lv' := [(2, .int 0), (0, .ref (q 0)), (1, .int v1)]) hx hb dX5_roots_22 rfl hl (by decide) rfl (fun ls hl => ?_)
    refine lv_iconst (v := 0) hx hb dX5_roots_23 (by decide) ?_
    refine lv_istore_n (lv' := [(3, .int 0), (2, .int 0), (0, .ref (q 0)), (1, .int v1)]) hx hb dX5_roots_24 rfl hl (by decide) rfl (fun ls hl => ?_)
    exact w_X5_roots_L25 F hA  FU _ _ _ _ z h hE H locs ls hw (lv_sub hl [2, 3, 1, 0] rfl)
  · replace h := stT c2 h
    refine lv_bipush (v := -2) hx hb dX5_roots_14 (by decide) ?_
    obtain rfl := Option.some.inj h
    exact hE H locs _ ls hw dX5_roots_16
end
