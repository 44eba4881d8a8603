/-! printed by wip/whole/mk.py: the functions that mirror the bytecode, and the contracts over them -/
theorem dX4_setWhole_0 : decode cX4_setWhole 0 = .ok (.iconst 0, 1) := by decide +kernel
theorem dX4_setWhole_1 : decode cX4_setWhole 1 = .ok (.istore_n 2, 1) := by decide +kernel
theorem dX4_setWhole_2 : decode cX4_setWhole 2 = .ok (.iload_n 2, 1) := by decide +kernel
theorem dX4_setWhole_3 : decode cX4_setWhole 3 = .ok (.bipush 12, 2) := by decide +kernel
theorem dX4_setWhole_5 : decode cX4_setWhole 5 = .ok (.if_icmp .ge 15, 3) := by decide +kernel
theorem dX4_setWhole_8 : decode cX4_setWhole 8 = .ok (.aload_n 0, 1) := by decide +kernel
theorem dX4_setWhole_9 : decode cX4_setWhole 9 = .ok (.iload_n 2, 1) := by decide +kernel
theorem dX4_setWhole_10 : decode cX4_setWhole 10 = .ok (.iload_n 1, 1) := by decide +kernel
theorem dX4_setWhole_11 : decode cX4_setWhole 11 = .ok (.i2l, 1) := by decide +kernel
theorem dX4_setWhole_12 : decode cX4_setWhole 12 = .ok (.lneg, 1) := by decide +kernel
theorem dX4_setWhole_13 : decode cX4_setWhole 13 = .ok (.lastore, 1) := by decide +kernel
theorem dX4_setWhole_14 : decode cX4_setWhole 14 = .ok (.iinc 2 1, 3) := by decide +kernel
theorem dX4_setWhole_17 : decode cX4_setWhole 17 = .ok (.goto (-15), 3) := by decide +kernel
theorem dX4_setWhole_20 : decode cX4_setWhole 20 = .ok (.return_, 1) := by decide +kernel
theorem dX4_copyRow_0 : decode cX4_copyRow 0 = .ok (.iconst 0, 1) := by decide +kernel
theorem dX4_copyRow_1 : decode cX4_copyRow 1 = .ok (.istore_n 2, 1) := by decide +kernel
theorem dX4_copyRow_2 : decode cX4_copyRow 2 = .ok (.iload_n 2, 1) := by decide +kernel
theorem dX4_copyRow_3 : decode cX4_copyRow 3 = .ok (.bipush 12, 2) := by decide +kernel
theorem dX4_copyRow_5 : decode cX4_copyRow 5 = .ok (.if_icmp .ge 15, 3) := by decide +kernel
theorem dX4_copyRow_8 : decode cX4_copyRow 8 = .ok (.aload_n 1, 1) := by decide +kernel
theorem dX4_copyRow_9 : decode cX4_copyRow 9 = .ok (.iload_n 2, 1) := by decide +kernel
theorem dX4_copyRow_10 : decode cX4_copyRow 10 = .ok (.aload_n 0, 1) := by decide +kernel
theorem dX4_copyRow_11 : decode cX4_copyRow 11 = .ok (.iload_n 2, 1) := by decide +kernel
theorem dX4_copyRow_12 : decode cX4_copyRow 12 = .ok (.laload, 1) := by decide +kernel
theorem dX4_copyRow_13 : decode cX4_copyRow 13 = .ok (.lastore, 1) := by decide +kernel
theorem dX4_copyRow_14 : decode cX4_copyRow 14 = .ok (.iinc 2 1, 3) := by decide +kernel
theorem dX4_copyRow_17 : decode cX4_copyRow 17 = .ok (.goto (-15), 3) := by decide +kernel
theorem dX4_copyRow_20 : decode cX4_copyRow 20 = .ok (.return_, 1) := by decide +kernel
theorem dX4_setPeriod_0 : decode cX4_setPeriod 0 = .ok (.aload_n 0, 1) := by decide +kernel
theorem dX4_setPeriod_1 : decode cX4_setPeriod 1 = .ok (.iconst 0, 1) := by decide +kernel
theorem dX4_setPeriod_2 : decode cX4_setPeriod 2 = .ok (.invokestatic 71, 3) := by decide +kernel
theorem dX4_setPeriod_5 : decode cX4_setPeriod 5 = .ok (.aload_n 0, 1) := by decide +kernel
theorem dX4_setPeriod_6 : decode cX4_setPeriod 6 = .ok (.iload_n 1, 1) := by decide +kernel
theorem dX4_setPeriod_7 : decode cX4_setPeriod 7 = .ok (.lconst 1, 1) := by decide +kernel
theorem dX4_setPeriod_8 : decode cX4_setPeriod 8 = .ok (.lastore, 1) := by decide +kernel
theorem dX4_setPeriod_9 : decode cX4_setPeriod 9 = .ok (.return_, 1) := by decide +kernel

/-- the first i places are v -/
def swr (v : Int64) (i : Nat) (g : Nat → Int64) : Nat → Int64 := fun k => if k < i then v else g k
theorem swr_0 (v : Int64) (g : Nat → Int64) : swr v 0 g = g := funext fun k => by simp [swr]
theorem swr_s (v : Int64) (i : Nat) (g : Nat → Int64) : vp_updL (swr v i g) i v = swr v (i + 1) g := funext fun k => by
  simp only [vp_updL, swr]
  by_cases h1 : k = i
  · simp [h1]
  · by_cases h2 : k < i
    · simp [h1, h2, Nat.lt_succ_of_lt h2]
    · simp [h1, h2, show ¬ k < i + 1 by omega]
/-- the first i places are f's -/
def cpr (f : Nat → Int64) (i : Nat) (g : Nat → Int64) : Nat → Int64 := fun k => if k < i then f k else g k
theorem cpr_0 (f g : Nat → Int64) : cpr f 0 g = g := funext fun k => by simp [cpr]
theorem cpr_s (f : Nat → Int64) (i : Nat) (g : Nat → Int64) : vp_updL (cpr f i g) i (f i) = cpr f (i + 1) g := funext fun k => by
  simp only [vp_updL, cpr]
  by_cases h1 : k = i
  · simp [h1]
  · by_cases h2 : k < i
    · simp [h1, h2, Nat.lt_succ_of_lt h2]
    · simp [h1, h2, show ¬ k < i + 1 by omega]
theorem vin_n {i n : Nat} (h : i < n) (h2 : i < 2 ^ 31) : vp_in (nI i) n := by
  intro q
  rcases q with q | q
  · exact nI_pos h2 q
  · rw [nI_clamp h2] at q
    omega
abbrev rwE (G : GG) (n : Nat) (f : Nat → Int64) : va_E := .inl (G.2.2.2.1, n, .inr (.inl f))
section
variable {p : Program} {l : Launch} {e : Env} {R : Room} {s : State} {m : MethodId} {args : Array Value} {below : List Frame} {meth : Method} {c : Code} {Q : State → Prop} {G : GG} {A : Nat → Prop} {X : va_W}
theorem w_setWhole {j a n' : Nat} {f : Nat → Int64} {v1 : Int32} (F : Fx p s m args meth c cX4_setWhole 3 RX4 none) (hj : X[j]? = some (a, rwE G n' f)) (hn : 12 ≤ n') (hE : Ends p l e R s m args below meth c Q cX4_setWhole G A none none (X.set j (a, rwE G n' (swr (-v1.toInt64) 12 f)))) :
    ∀ (n i : Nat), i ≤ 12 → 12 - i < n → ∀ (H : Heap) (locs : List Loc) (ls : Array Slot), Wd G s A (X.set j (a, rwE G n' (swr (-v1.toInt64) i f))) H locs → lv_has ls 3 [(0, .ref a), (1, .int v1), (2, .int (nI i))] → W p l e R s m args below meth c H locs 0 0 Q (F0 m 2 ls []) := by
  have hx := F.x
  have hb := F.b
  have hlen : j < X.length := (List.getElem?_eq_some_iff.mp hj).1
  intro n
  induction n with
  | zero => intro i h1 h2; exact absurd h2 (Nat.not_lt_zero _)
  | succ n ih =>
    intro i h1 h2 H locs ls hw hl
    refine lv_iload_n hx hb dX4_setWhole_2 rfl (lv_at hl 2 rfl) ?_
    refine lv_bipush (v := 12) hx hb dX4_setWhole_3 (by decide) ?_
    refine lv_icmp_ge (tgt := 20) hx hb dX4_setWhole_5 (by decide) (fun c1 => ?_) (fun c1 => ?_)
    · have h3 : 12 ≤ i := (nI_leI (a := 12) (by decide) (by omega)).mp c1
      obtain rfl : i = 12 := by omega
      exact hE H locs _ ls hw dX4_setWhole_20
    · have h3 : i < 12 := by
        rcases Nat.lt_or_ge i 12 with q | q
        · exact q
        · exact absurd ((nI_leI (a := 12) (by decide) (by omega)).mpr q) c1
      refine lv_aload_n hx hb dX4_setWhole_8 rfl (lv_at hl 0 rfl) ?_
      refine lv_iload_n hx hb dX4_setWhole_9 rfl (lv_at hl 2 rfl) ?_
      refine lv_iload_n hx hb dX4_setWhole_10 rfl (lv_at hl 1 rfl) ?_
      refine lv_i2l (v := v1.toInt64) hx hb dX4_setWhole_11 rfl ?_
      refine lv_lneg hx hb dX4_setWhole_12 ?_
      refine va_last hx hb hw.1 hw.2.1 hw.2.2.1 hw.2.2.2 j 2 (cA := G.2.2.2.1) (n := n') (f := swr (-v1.toInt64) i f) (List.getElem?_set_self hlen) rfl (vin_n (by omega) (by omega)) dX4_setWhole_13 (fun H locs hP hD hS => ?_)
      rw [List.set_set, nI_clamp (by omega), swr_s] at hP hD
      refine lv_iinc (v := nI (i + 1)) (lv' := [(2, .int (nI (i + 1))), (0, .ref a), (1, .int v1)]) hx hb dX4_setWhole_14 hl (k := 2) rfl (nI_1 i) (by decide) rfl (fun ls hl => ?_)
      refine lv_goto (tgt := 2) hx hb dX4_setWhole_17 (by decide) ?_
      exact ih (i + 1) (by omega) (by omega) H locs ls ⟨hw.1, hP, hD, hS⟩ (lv_sub hl [1, 2, 0] rfl)
theorem set_self {X : va_W} {j a n' : Nat} {f : Nat → Int64} (hj : X[j]? = some (a, rwE G n' f)) : X.set j (a, rwE G n' f) = X := by
  refine List.ext_getElem? (fun i => ?_)
  rw [List.getElem?_set]
  by_cases h : j = i
  · subst h
    have hlen : j < X.length := (List.getElem?_eq_some_iff.mp hj).1
    rw [if_pos rfl, if_pos hlen, hj]
  · simp [h]
end
theorem c_setWhole {l : Launch} {G : GG} {X : va_W} {j a n' : Nat} {f : Nat → Int64} {v1 : Int32} (hj : X[j]? = some (a, rwE G n' f)) (hn : 12 ≤ n') : Ct l G yX4_setWhole cX4_setWhole 3 none 0 0 [.ref a, .int v1] X none (X.set j (a, rwE G n' (swr (-v1.toInt64) 12 f))) := by
  refine Ct.of (by decide +kernel) (Nat.le_of_ble_eq_true rfl) trivial ?_
  intro p e s m args below meth c Q A ls F hw hA hE hl
  have hx := F.x
  have hb := F.b
  have hl : lv_has ls 3 [(0, .ref a), (1, .int v1)] := hl
  refine lv_iconst (v := nI 0) hx hb dX4_setWhole_0 (by decide) ?_
  refine lv_istore_n (lv' := [(2, .int (nI 0)), (0, .ref a), (1, .int v1)]) hx hb dX4_setWhole_1 rfl hl (by decide) rfl (fun ls hl => ?_)
  refine w_setWhole F hj hn hE 20 0 (by decide) (by decide) _ _ ls ?_ (lv_sub hl [1, 2, 0] rfl)
  rw [swr_0, set_self hj]
  exact hw
section
variable {p : Program} {l : Launch} {e : Env} {R : Room} {s : State} {m : MethodId} {args : Array Value} {below : List Frame} {meth : Method} {c : Code} {Q : State → Prop} {G : GG} {A : Nat → Prop} {X : va_W}
theorem w_copyRow {j k a b n1 n2 : Nat} {f g : Nat → Int64} (F : Fx p s m args meth c cX4_copyRow 3 RX4 none) (hk : X[k]? = some (a, rwE G n1 f)) (hj : X[j]? = some (b, rwE G n2 g)) (hkj : j ≠ k) (hn1 : 12 ≤ n1) (hn2 : 12 ≤ n2) (hE : Ends p l e R s m args below meth c Q cX4_copyRow G A none none (X.set j (b, rwE G n2 (cpr f 12 g)))) :
    ∀ (n i : Nat), i ≤ 12 → 12 - i < n → ∀ (H : Heap) (locs : List Loc) (ls : Array Slot), Wd G s A (X.set j (b, rwE G n2 (cpr f i g))) H locs → lv_has ls 3 [(0, .ref a), (1, .ref b), (2, .int (nI i))] → W p l e R s m args below meth c H locs 0 0 Q (F0 m 2 ls []) := by
  have hx := F.x
  have hb := F.b
  have hlen : j < X.length := (List.getElem?_eq_some_iff.mp hj).1
  intro n
  induction n with
  | zero => intro i h1 h2; exact absurd h2 (Nat.not_lt_zero _)
  | succ n ih =>
    intro i h1 h2 H locs ls hw hl
    refine lv_iload_n hx hb dX4_copyRow_2 rfl (lv_at hl 2 rfl) ?_
    refine lv_bipush (v := 12) hx hb dX4_copyRow_3 (by decide) ?_
    refine lv_icmp_ge (tgt := 20) hx hb dX4_copyRow_5 (by decide) (fun c1 => ?_) (fun c1 => ?_)
    · have h3 : 12 ≤ i := (nI_leI (a := 12) (by decide) (by omega)).mp c1
      obtain rfl : i = 12 := by omega
      exact hE H locs _ ls hw dX4_copyRow_20
    · have h3 : i < 12 := by
        rcases Nat.lt_or_ge i 12 with q | q
        · exact q
        · exact absurd ((nI_leI (a := 12) (by decide) (by omega)).mpr q) c1
      refine lv_aload_n hx hb dX4_copyRow_8 rfl (lv_at hl 1 rfl) ?_
      refine lv_iload_n hx hb dX4_copyRow_9 rfl (lv_at hl 2 rfl) ?_
      refine lv_aload_n hx hb dX4_copyRow_10 rfl (lv_at hl 0 rfl) ?_
      refine lv_iload_n hx hb dX4_copyRow_11 rfl (lv_at hl 2 rfl) ?_
      refine va_lald hx hb hw.1 hw.2.1 k 2 (cA := G.2.2.2.1) (n := n1) (f := f) (by rw [List.getElem?_set_ne hkj]; exact hk) rfl (vin_n (by omega) (by omega)) dX4_copyRow_12 ?_
      refine va_last hx hb hw.1 hw.2.1 hw.2.2.1 hw.2.2.2 j 2 (cA := G.2.2.2.1) (n := n2) (f := cpr f i g) (List.getElem?_set_self hlen) rfl (vin_n (by omega) (by omega)) dX4_copyRow_13 (fun H locs hP hD hS => ?_)
      rw [List.set_set, nI_clamp (by omega), cpr_s] at hP hD
      refine lv_iinc (v := nI (i + 1)) (lv' := [(2, .int (nI (i + 1))), (0, .ref a), (1, .ref b)]) hx hb dX4_copyRow_14 hl (k := 2) rfl (nI_1 i) (by decide) rfl (fun ls hl => ?_)
      refine lv_goto (tgt := 2) hx hb dX4_copyRow_17 (by decide) ?_
      exact ih (i + 1) (by omega) (by omega) H locs ls ⟨hw.1, hP, hD, hS⟩ (lv_sub hl [1, 2, 0] rfl)
end
theorem c_copyRow {l : Launch} {G : GG} {X : va_W} {j k a b n1 n2 : Nat} {f g : Nat → Int64} (hk : X[k]? = some (a, rwE G n1 f)) (hj : X[j]? = some (b, rwE G n2 g)) (hkj : j ≠ k) (hn1 : 12 ≤ n1) (hn2 : 12 ≤ n2) : Ct l G yX4_copyRow cX4_copyRow 3 none 0 0 [.ref a, .ref b] X none (X.set j (b, rwE G n2 (cpr f 12 g))) := by
  refine Ct.of (by decide +kernel) (Nat.le_of_ble_eq_true rfl) trivial ?_
  intro p e s m args below meth c Q A ls F hw hA hE hl
  have hx := F.x
  have hb := F.b
  have hl : lv_has ls 3 [(0, .ref a), (1, .ref b)] := hl
  refine lv_iconst (v := nI 0) hx hb dX4_copyRow_0 (by decide) ?_
  refine lv_istore_n (lv' := [(2, .int (nI 0)), (0, .ref a), (1, .ref b)]) hx hb dX4_copyRow_1 rfl hl (by decide) rfl (fun ls hl => ?_)
  refine w_copyRow F hk hj hkj hn1 hn2 hE 20 0 (by decide) (by decide) _ _ ls ?_ (lv_sub hl [1, 2, 0] rfl)
  rw [cpr_0, set_self hj]
  exact hw
theorem c_setPeriod {l : Launch} {G : GG} {X : va_W} {j a n' : Nat} {f : Nat → Int64} {v1 : Int32} (hj : X[j]? = some (a, rwE G n' f)) (hn : 12 ≤ n') (hi : inb v1 n' = true) : Ct l G yX4_setPeriod cX4_setPeriod 2 none 1 22 [.ref a, .int v1] X none (X.set j (a, rwE G n' (vp_updL (swr (-(0 : Int32).toInt64) 12 f) v1.toNatClampNeg 1))) := by
  refine Ct.of (by decide +kernel) (Nat.le_of_ble_eq_true rfl) trivial ?_
  intro p e s m args below meth c Q A ls F hw hA hE hl
  have hx := F.x
  have hb := F.b
  have hlen : j < X.length := (List.getElem?_eq_some_iff.mp hj).1
  have hl : lv_has ls 2 [(0, .ref a), (1, .int v1)] := hl
  refine lv_aload_n hx hb dX4_setPeriod_0 rfl (lv_at hl 0 rfl) ?_
  refine lv_iconst (v := 0) hx hb dX4_setPeriod_1 (by decide) ?_
  refine ctS (av := [.ref a, .int 0]) (st0 := []) (st1 := []) F hw hA (c_setWhole hj hn) kl_4_71 kd_X4_setWhole rfl ⟨by decide, by decide⟩ hl.1 rfl (Nat.le_of_ble_eq_true rfl) dX4_setPeriod_2 rfl (fun H locs hw => ?_)
  refine lv_aload_n hx hb dX4_setPeriod_5 rfl (lv_at hl 0 rfl) ?_
  refine lv_iload_n hx hb dX4_setPeriod_6 rfl (lv_at hl 1 rfl) ?_
  refine lv_lconst (v := 1) hx hb dX4_setPeriod_7 (by decide) ?_
  refine va_last hx hb hw.1 hw.2.1 hw.2.2.1 hw.2.2.2 j 2 (cA := G.2.2.2.1) (n := n') (f := swr (-(0 : Int32).toInt64) 12 f) (List.getElem?_set_self hlen) rfl (inb_vp hi) dX4_setPeriod_8 (fun H locs hP hD hS => ?_)
  rw [List.set_set] at hP hD
  exact hE H locs _ ls ⟨hw.1, hP, hD, hS⟩ dX4_setPeriod_9
theorem rl_12 (a : Nat) : 12 ≤ rl a := by unfold rl; split <;> decide

def f_X4_setWhole (M : Nat → Nat → Int64) (r0 : Nat) (v1 : Int32) : Option (Nat → Nat → Int64) := some (va_up M r0 (swr (-v1.toInt64) 12 (M r0)))
theorem k_X4_setWhole {l : Launch} {G : GG} {q : Nat → Nat} {fr : va_W} {zp : Int32} {ze : Int32} {zf : Int32} {zg : Int32} {zn : Int32} {aG : Nat → Int32} {aW : Nat → Int32} {aR : Nat → Int32} {aN : Nat → Int32} {aF : Nat → Int32} {lC : Nat → Int64} {lS : Nat → Int64} {lP : Nat → Int64} {lX : Nat → Int64} {ztc : Int32} {aTs : Nat → Int32} {aTn : Nat → Int32} {zoc : Int32} {aOs : Nat → Int32} {aOn : Nat → Int32} {aTp : Nat → Int32} {zln : Int32} {zpl : Int32} {zfa : Int32} {aSz : Nat → Int32} {zit : Int32} {zip : Int32} {zic : Int32} {zig : Int32} {M : Nat → Nat → Int64} {r0 : Nat} {v1 : Int32} {z : Nat → Nat → Int64} (hr0 : r0 < 32) (h : f_X4_setWhole M r0 v1 = some z) : Ct l G yX4_setWhole cX4_setWhole 3 none 0 0 [.ref (q (26 + r0)), .int v1] (kW G q zp ze zf zg zn aG aW aR aN aF lC lS lP lX ++ (oW G q ztc aTs aTn zoc aOs aOn aTp zln zpl zfa aSz zit zip zic zig M ++ fr)) none (kW G q zp ze zf zg zn aG aW aR aN aF lC lS lP lX ++ (oW G q ztc aTs aTn zoc aOs aOn aTp zln zpl zfa aSz zit zip zic zig z ++ fr)) := by
  obtain rfl := Option.some.inj h
  rw [← row_set hr0]
  exact c_setWhole (row_at hr0) (rl_12 r0)
def f_X4_setPeriod (M : Nat → Nat → Int64) (r0 : Nat) (v1 : Int32) : Option (Nat → Nat → Int64) := if inb v1 (rl r0) then some (va_up M r0 (vp_updL (swr (-(0 : Int32).toInt64) 12 (M r0)) v1.toNatClampNeg 1)) else none
theorem k_X4_setPeriod {l : Launch} {G : GG} {q : Nat → Nat} {fr : va_W} {zp : Int32} {ze : Int32} {zf : Int32} {zg : Int32} {zn : Int32} {aG : Nat → Int32} {aW : Nat → Int32} {aR : Nat → Int32} {aN : Nat → Int32} {aF : Nat → Int32} {lC : Nat → Int64} {lS : Nat → Int64} {lP : Nat → Int64} {lX : Nat → Int64} {ztc : Int32} {aTs : Nat → Int32} {aTn : Nat → Int32} {zoc : Int32} {aOs : Nat → Int32} {aOn : Nat → Int32} {aTp : Nat → Int32} {zln : Int32} {zpl : Int32} {zfa : Int32} {aSz : Nat → Int32} {zit : Int32} {zip : Int32} {zic : Int32} {zig : Int32} {M : Nat → Nat → Int64} {r0 : Nat} {v1 : Int32} {z : Nat → Nat → Int64} (hr0 : r0 < 32) (h : f_X4_setPeriod M r0 v1 = some z) : Ct l G yX4_setPeriod cX4_setPeriod 2 none 1 22 [.ref (q (26 + r0)), .int v1] (kW G q zp ze zf zg zn aG aW aR aN aF lC lS lP lX ++ (oW G q ztc aTs aTn zoc aOs aOn aTp zln zpl zfa aSz zit zip zic zig M ++ fr)) none (kW G q zp ze zf zg zn aG aW aR aN aF lC lS lP lX ++ (oW G q ztc aTs aTn zoc aOs aOn aTp zln zpl zfa aSz zit zip zic zig z ++ fr)) := by
  obtain ⟨g, h⟩ := stG h
  obtain rfl := Option.some.inj h
  rw [← row_set hr0]
  exact c_setPeriod (row_at hr0) (rl_12 r0) g
def f_X4_copyRow (M : Nat → Nat → Int64) (r0 r1 : Nat) : Option (Nat → Nat → Int64) := if r1 = r0 then none else some (va_up M r1 (cpr (M r0) 12 (M r1)))
theorem k_X4_copyRow {l : Launch} {G : GG} {q : Nat → Nat} {fr : va_W} {zp : Int32} {ze : Int32} {zf : Int32} {zg : Int32} {zn : Int32} {aG : Nat → Int32} {aW : Nat → Int32} {aR : Nat → Int32} {aN : Nat → Int32} {aF : Nat → Int32} {lC : Nat → Int64} {lS : Nat → Int64} {lP : Nat → Int64} {lX : Nat → Int64} {ztc : Int32} {aTs : Nat → Int32} {aTn : Nat → Int32} {zoc : Int32} {aOs : Nat → Int32} {aOn : Nat → Int32} {aTp : Nat → Int32} {zln : Int32} {zpl : Int32} {zfa : Int32} {aSz : Nat → Int32} {zit : Int32} {zip : Int32} {zic : Int32} {zig : Int32} {M : Nat → Nat → Int64} {r0 r1 : Nat} {z : Nat → Nat → Int64} (hr0 : r0 < 32) (hr1 : r1 < 32) (h : f_X4_copyRow M r0 r1 = some z) : Ct l G yX4_copyRow cX4_copyRow 3 none 0 0 [.ref (q (26 + r0)), .ref (q (26 + r1))] (kW G q zp ze zf zg zn aG aW aR aN aF lC lS lP lX ++ (oW G q ztc aTs aTn zoc aOs aOn aTp zln zpl zfa aSz zit zip zic zig M ++ fr)) none (kW G q zp ze zf zg zn aG aW aR aN aF lC lS lP lX ++ (oW G q ztc aTs aTn zoc aOs aOn aTp zln zpl zfa aSz zit zip zic zig z ++ fr)) := by
  obtain ⟨g, h⟩ := stD h
  obtain rfl := Option.some.inj h
  rw [← row_set hr1]
  exact c_copyRow (row_at hr0) (row_at hr1) (by omega) (rl_12 r0) (rl_12 r1)
def f_X4_setPeriodK (lP : Nat → Int64) (v1 : Int32) : Option (Nat → Int64) := if inb v1 12 then some (vp_updL (swr (-(0 : Int32).toInt64) 12 lP) v1.toNatClampNeg 1) else none
theorem k_X4_setPeriodK {l : Launch} {G : GG} {q : Nat → Nat} {fr : va_W} {zp : Int32} {ze : Int32} {zf : Int32} {zg : Int32} {zn : Int32} {aG : Nat → Int32} {aW : Nat → Int32} {aR : Nat → Int32} {aN : Nat → Int32} {aF : Nat → Int32} {lC : Nat → Int64} {lS : Nat → Int64} {lP : Nat → Int64} {lX : Nat → Int64} {v1 : Int32} {z : Nat → Int64} (h : f_X4_setPeriodK lP v1 = some z) : Ct l G yX4_setPeriod cX4_setPeriod 2 none 1 22 [.ref (q 8), .int v1] (kW G q zp ze zf zg zn aG aW aR aN aF lC lS lP lX ++ fr) none (kW G q zp ze zf zg zn aG aW aR aN aF lC lS z lX ++ fr) := by
  obtain ⟨g, h⟩ := stG h
  obtain rfl := Option.some.inj h
  exact c_setPeriod (X := (kW G q zp ze zf zg zn aG aW aR aN aF lC lS lP lX ++ fr)) (j := 8) (a := q 8) (n' := 12) (f := lP) rfl (by decide) g
def f_X4_copyRowK (lP lX : Nat → Int64) : Option (Nat → Int64) := some (cpr lX 12 lP)
theorem k_X4_copyRowK {l : Launch} {G : GG} {q : Nat → Nat} {fr : va_W} {zp : Int32} {ze : Int32} {zf : Int32} {zg : Int32} {zn : Int32} {aG : Nat → Int32} {aW : Nat → Int32} {aR : Nat → Int32} {aN : Nat → Int32} {aF : Nat → Int32} {lC : Nat → Int64} {lS : Nat → Int64} {lP : Nat → Int64} {lX : Nat → Int64} {z : Nat → Int64} (h : f_X4_copyRowK lP lX = some z) : Ct l G yX4_copyRow cX4_copyRow 3 none 0 0 [.ref (q 9), .ref (q 8)] (kW G q zp ze zf zg zn aG aW aR aN aF lC lS lP lX ++ fr) none (kW G q zp ze zf zg zn aG aW aR aN aF lC lS z lX ++ fr) := by
  obtain rfl := Option.some.inj h
  exact c_copyRow (X := (kW G q zp ze zf zg zn aG aW aR aN aF lC lS lP lX ++ fr)) (k := 9) (j := 8) (a := q 9) (b := q 8) (n1 := 12) (n2 := 12) (f := lX) (g := lP) rfl rfl (by decide) (by decide) (by decide)
theorem dX0_multiplyByFirstPeriod_0 : decode cX0_multiplyByFirstPeriod 0 = .ok (.iconst 0, 1) := by decide +kernel
theorem dX0_multiplyByFirstPeriod_1 : decode cX0_multiplyByFirstPeriod 1 = .ok (.istore_n 1, 1) := by decide +kernel
theorem dX0_multiplyByFirstPeriod_2 : decode cX0_multiplyByFirstPeriod 2 = .ok (.iload_n 1, 1) := by decide +kernel
theorem dX0_multiplyByFirstPeriod_3 : decode cX0_multiplyByFirstPeriod 3 = .ok (.aload_n 0, 1) := by decide +kernel
theorem dX0_multiplyByFirstPeriod_4 : decode cX0_multiplyByFirstPeriod 4 = .ok (.getfield 48, 3) := by decide +kernel
theorem dX0_multiplyByFirstPeriod_7 : decode cX0_multiplyByFirstPeriod 7 = .ok (.if_icmp .ge 60, 3) := by decide +kernel
theorem dX0_multiplyByFirstPeriod_10 : decode cX0_multiplyByFirstPeriod 10 = .ok (.lconst 0, 1) := by decide +kernel
theorem dX0_multiplyByFirstPeriod_11 : decode cX0_multiplyByFirstPeriod 11 = .ok (.lstore_n 2, 1) := by decide +kernel
theorem dX0_multiplyByFirstPeriod_12 : decode cX0_multiplyByFirstPeriod 12 = .ok (.iconst 0, 1) := by decide +kernel
theorem dX0_multiplyByFirstPeriod_13 : decode cX0_multiplyByFirstPeriod 13 = .ok (.istore 4, 2) := by decide +kernel
theorem dX0_multiplyByFirstPeriod_15 : decode cX0_multiplyByFirstPeriod 15 = .ok (.iload 4, 2) := by decide +kernel
theorem dX0_multiplyByFirstPeriod_17 : decode cX0_multiplyByFirstPeriod 17 = .ok (.aload_n 0, 1) := by decide +kernel
theorem dX0_multiplyByFirstPeriod_18 : decode cX0_multiplyByFirstPeriod 18 = .ok (.getfield 48, 3) := by decide +kernel
theorem dX0_multiplyByFirstPeriod_21 : decode cX0_multiplyByFirstPeriod 21 = .ok (.if_icmp .ge 33, 3) := by decide +kernel
theorem dX0_multiplyByFirstPeriod_24 : decode cX0_multiplyByFirstPeriod 24 = .ok (.lload_n 2, 1) := by decide +kernel
theorem dX0_multiplyByFirstPeriod_25 : decode cX0_multiplyByFirstPeriod 25 = .ok (.aload_n 0, 1) := by decide +kernel
theorem dX0_multiplyByFirstPeriod_26 : decode cX0_multiplyByFirstPeriod 26 = .ok (.getfield 34, 3) := by decide +kernel
theorem dX0_multiplyByFirstPeriod_29 : decode cX0_multiplyByFirstPeriod 29 = .ok (.iload 4, 2) := by decide +kernel
theorem dX0_multiplyByFirstPeriod_31 : decode cX0_multiplyByFirstPeriod 31 = .ok (.laload, 1) := by decide +kernel
theorem dX0_multiplyByFirstPeriod_32 : decode cX0_multiplyByFirstPeriod 32 = .ok (.aload_n 0, 1) := by decide +kernel
theorem dX0_multiplyByFirstPeriod_33 : decode cX0_multiplyByFirstPeriod 33 = .ok (.getfield 24, 3) := by decide +kernel
theorem dX0_multiplyByFirstPeriod_36 : decode cX0_multiplyByFirstPeriod 36 = .ok (.iload 4, 2) := by decide +kernel
theorem dX0_multiplyByFirstPeriod_38 : decode cX0_multiplyByFirstPeriod 38 = .ok (.iconst 0, 1) := by decide +kernel
theorem dX0_multiplyByFirstPeriod_39 : decode cX0_multiplyByFirstPeriod 39 = .ok (.iload_n 1, 1) := by decide +kernel
theorem dX0_multiplyByFirstPeriod_40 : decode cX0_multiplyByFirstPeriod 40 = .ok (.invokestatic 93, 3) := by decide +kernel
theorem dX0_multiplyByFirstPeriod_43 : decode cX0_multiplyByFirstPeriod 43 = .ok (.iaload, 1) := by decide +kernel
theorem dX0_multiplyByFirstPeriod_44 : decode cX0_multiplyByFirstPeriod 44 = .ok (.i2l, 1) := by decide +kernel
theorem dX0_multiplyByFirstPeriod_45 : decode cX0_multiplyByFirstPeriod 45 = .ok (.lmul, 1) := by decide +kernel
theorem dX0_multiplyByFirstPeriod_46 : decode cX0_multiplyByFirstPeriod 46 = .ok (.ladd, 1) := by decide +kernel
theorem dX0_multiplyByFirstPeriod_47 : decode cX0_multiplyByFirstPeriod 47 = .ok (.lstore_n 2, 1) := by decide +kernel
theorem dX0_multiplyByFirstPeriod_48 : decode cX0_multiplyByFirstPeriod 48 = .ok (.iinc 4 1, 3) := by decide +kernel
theorem dX0_multiplyByFirstPeriod_51 : decode cX0_multiplyByFirstPeriod 51 = .ok (.goto (-36), 3) := by decide +kernel
theorem dX0_multiplyByFirstPeriod_54 : decode cX0_multiplyByFirstPeriod 54 = .ok (.aload_n 0, 1) := by decide +kernel
theorem dX0_multiplyByFirstPeriod_55 : decode cX0_multiplyByFirstPeriod 55 = .ok (.getfield 37, 3) := by decide +kernel
theorem dX0_multiplyByFirstPeriod_58 : decode cX0_multiplyByFirstPeriod 58 = .ok (.iload_n 1, 1) := by decide +kernel
theorem dX0_multiplyByFirstPeriod_59 : decode cX0_multiplyByFirstPeriod 59 = .ok (.lload_n 2, 1) := by decide +kernel
theorem dX0_multiplyByFirstPeriod_60 : decode cX0_multiplyByFirstPeriod 60 = .ok (.lastore, 1) := by decide +kernel
theorem dX0_multiplyByFirstPeriod_61 : decode cX0_multiplyByFirstPeriod 61 = .ok (.iinc 1 1, 3) := by decide +kernel
theorem dX0_multiplyByFirstPeriod_64 : decode cX0_multiplyByFirstPeriod 64 = .ok (.goto (-62), 3) := by decide +kernel
theorem dX0_multiplyByFirstPeriod_67 : decode cX0_multiplyByFirstPeriod 67 = .ok (.aload_n 0, 1) := by decide +kernel
theorem dX0_multiplyByFirstPeriod_68 : decode cX0_multiplyByFirstPeriod 68 = .ok (.getfield 37, 3) := by decide +kernel
theorem dX0_multiplyByFirstPeriod_71 : decode cX0_multiplyByFirstPeriod 71 = .ok (.aload_n 0, 1) := by decide +kernel
theorem dX0_multiplyByFirstPeriod_72 : decode cX0_multiplyByFirstPeriod 72 = .ok (.getfield 34, 3) := by decide +kernel
theorem dX0_multiplyByFirstPeriod_75 : decode cX0_multiplyByFirstPeriod 75 = .ok (.invokestatic 110, 3) := by decide +kernel
theorem dX0_multiplyByFirstPeriod_78 : decode cX0_multiplyByFirstPeriod 78 = .ok (.return_, 1) := by decide +kernel
section
variable {p : Program} {l : Launch} {e : Env} {s : State} {m : MethodId} {args : Array Value} {below : List Frame} {meth : Method} {c : Code} {Q : State → Prop} {G : GG} {A : Nat → Prop} {q : Nat → Nat} {fr : va_W}
def f_X0_multiplyByFirstPeriod_L15 (ze : Int32) (aF : Nat → Int32) (KK : (Nat → Int64) → (Nat → Int64) → Int32 → Option ((Nat → Int64) × (Nat → Int64))) : Nat → (Nat → Int64) → (Nat → Int64) → Int32 → Int64 → Int32 → Option ((Nat → Int64) × (Nat → Int64))
  | 0, _, _, _, _, _ => none
  | fu + 1, lP, lX, v1, v2, v4 =>
    if ze ≤ v4 then
    if inb v1 12 then
    KK lP (vp_updL lX v1.toNatClampNeg v2) (v1 + 1)
    else none
    else
    if inb v4 12 then
    (f_X4_factorIndex v4 0 v1).bind fun z4 =>
    if inb z4 1728 then
    f_X0_multiplyByFirstPeriod_L15 ze aF KK fu lP lX v1 (v2 + ((lP v4.toNatClampNeg) * (aF z4.toNatClampNeg).toInt64)) (v4 + 1)
    else none
    else none
set_option maxHeartbeats 4000000 in
set_option maxRecDepth 100000 in
theorem w_X0_multiplyByFirstPeriod_L15  {zp : Int32} {ze : Int32} {zf : Int32} {zg : Int32} {zn : Int32} {aG : Nat → Int32} {aW : Nat → Int32} {aR : Nat → Int32} {aN : Nat → Int32} {aF : Nat → Int32} {lC : Nat → Int64} {lS : Nat → Int64}  {KK : (Nat → Int64) → (Nat → Int64) → Int32 → Option ((Nat → Int64) × (Nat → Int64))} (F : Fx p s m args meth c cX0_multiplyByFirstPeriod 5 RX0 none) (hA : ∀ q, s.heap.size ≤ q → A q)  (hK : ∀ (lP : Nat → Int64) (lX : Nat → Int64) (v1 : Int32) (z : (Nat → Int64) × (Nat → Int64)), KK lP lX v1 = some z → Ends p l e (rmOf 1 22) s m args below meth c Q cX0_multiplyByFirstPeriod G A none (none) (kW G q zp ze zf zg zn aG aW aR aN aF lC lS z.1 z.2 ++ fr) → ∀ (H : Heap) (locs : List Loc) (ls : Array Slot), Wd G s A (kW G q zp ze zf zg zn aG aW aR aN aF lC lS lP lX ++ fr) H locs → lv_has ls 5 [(0, .ref (q 0)), (1, .int v1)] → W p l e (rmOf 1 22) s m args below meth c H locs 0 0 Q (F0 m 2 ls [])) : ∀ (fu : Nat) (lP : Nat → Int64) (lX : Nat → Int64) (v1 : Int32) (v2 : Int64) (v4 : Int32) (z : (Nat → Int64) × (Nat → Int64)), f_X0_multiplyByFirstPeriod_L15 ze aF KK fu lP lX v1 v2 v4 = some z → Ends p l e (rmOf 1 22) s m args below meth c Q cX0_multiplyByFirstPeriod G A none (none) (kW G q zp ze zf zg zn aG aW aR aN aF lC lS z.1 z.2 ++ fr) → ∀ (H : Heap) (locs : List Loc) (ls : Array Slot), Wd G s A (kW G q zp ze zf zg zn aG aW aR aN aF lC lS lP lX ++ fr) H locs → lv_has ls 5 [(0, .ref (q 0)), (1, .int v1), (2, .long v2), (4, .int v4)] → W p l e (rmOf 1 22) s m args below meth c H locs 0 0 Q (F0 m 15 ls []) := by
  have hx := F.x
  have hb := F.b
  intro fu
  induction fu with
  | zero =>
    intro lP lX v1 v2 v4 z h
    cases (h : none = some z)
  | succ fu ih =>
    intro lP lX v1 v2 v4 z h hE H locs ls hw hl
    rw [f_X0_multiplyByFirstPeriod_L15] at h
    refine lv_iload hx hb dX0_multiplyByFirstPeriod_15 (lv_at hl 3 rfl) ?_
    refine lv_aload_n hx hb dX0_multiplyByFirstPeriod_17 rfl (lv_at hl 0 rfl) ?_
    refine gf_0_48 F hw dX0_multiplyByFirstPeriod_18 ?_
    refine lv_icmp_ge (tgt := 54) hx hb dX0_multiplyByFirstPeriod_21 (by decide) (fun c1 => ?_) (fun c1 => ?_)
    · replace h := stT c1 h
      refine lv_aload_n hx hb dX0_multiplyByFirstPeriod_54 rfl (lv_at hl 0 rfl) ?_
      refine gf_0_37 F hw dX0_multiplyByFirstPeriod_55 ?_
      refine lv_iload_n hx hb dX0_multiplyByFirstPeriod_58 rfl (lv_at hl 1 rfl) ?_
      refine lv_lload_n hx hb dX0_multiplyByFirstPeriod_59 rfl (lv_at hl 2 rfl) ?_
      obtain ⟨g2, h⟩ := stG h
      refine as_c9 F hw g2 dX0_multiplyByFirstPeriod_60 (fun H locs hw => ?_)
      refine lv_iinc (v := (v1 + 1)) (lv' := [(1, .int (v1 + 1)), (0, .ref (q 0)), (2, .long v2), (4, .int v4)]) hx hb dX0_multiplyByFirstPeriod_61 hl (k := 1) rfl rfl (by decide) rfl (fun ls hl => ?_)
      refine lv_goto (tgt := 2) hx hb dX0_multiplyByFirstPeriod_64 (by decide) ?_
      exact hK _ _ _ z h hE H locs ls hw (lv_sub hl [1, 0] rfl)
    · replace h := stF c1 h
      refine lv_lload_n hx hb dX0_multiplyByFirstPeriod_24 rfl (lv_at hl 2 rfl) ?_
      refine lv_aload_n hx hb dX0_multiplyByFirstPeriod_25 rfl (lv_at hl 0 rfl) ?_
      refine gf_0_34 F hw dX0_multiplyByFirstPeriod_26 ?_
      refine lv_iload hx hb dX0_multiplyByFirstPeriod_29 (lv_at hl 3 rfl) ?_
      obtain ⟨g3, h⟩ := stG h
      refine al_c8 F hw g3 dX0_multiplyByFirstPeriod_31 ?_
      refine lv_aload_n hx hb dX0_multiplyByFirstPeriod_32 rfl (lv_at hl 0 rfl) ?_
      refine gf_0_24 F hw dX0_multiplyByFirstPeriod_33 ?_
      refine lv_iload hx hb dX0_multiplyByFirstPeriod_36 (lv_at hl 3 rfl) ?_
      refine lv_iconst (v := 0) hx hb dX0_multiplyByFirstPeriod_38 (by decide) ?_
      refine lv_iload_n hx hb dX0_multiplyByFirstPeriod_39 rfl (lv_at hl 1 rfl) ?_
      obtain ⟨z4, hz4, h⟩ := stB h
      refine ctSN (av := [.int v4, .int 0, .int v1]) (st0 := ([.ref (q 5), .long (lP v4.toNatClampNeg), .long v2] : List Value)) (st1 := ([.int z4, .ref (q 5), .long (lP v4.toNatClampNeg), .long v2] : List Value)) (host := RX4) F hw hA (k_X4_factorIndex hz4) (by decide +kernel) kn_X4_factorIndex ki_4 ks_X4_factorIndex kd_X4_factorIndex rfl ⟨by decide, by decide⟩ hl.1 rfl (Nat.le_of_ble_eq_true rfl) dX0_multiplyByFirstPeriod_40 rfl (fun H locs hw => ?_)
      obtain ⟨g5, h⟩ := stG h
      refine al_c5 F hw g5 dX0_multiplyByFirstPeriod_43 ?_
      refine lv_i2l (v := (aF z4.toNatClampNeg).toInt64) hx hb dX0_multiplyByFirstPeriod_44 rfl ?_
      refine lv_lmul hx hb dX0_multiplyByFirstPeriod_45 ?_
      refine lv_ladd hx hb dX0_multiplyByFirstPeriod_46 ?_
      refine lv_lstore_n (lv' := [(2, .long (v2 + ((lP v4.toNatClampNeg) * (aF z4.toNatClampNeg).toInt64))), (0, .ref (q 0)), (1, .int v1), (4, .int v4)]) hx hb dX0_multiplyByFirstPeriod_47 rfl hl (by decide) rfl (fun ls hl => ?_)
      refine lv_iinc (v := (v4 + 1)) (lv' := [(4, .int (v4 + 1)), (2, .long (v2 + ((lP v4.toNatClampNeg) * (aF z4.toNatClampNeg).toInt64))), (0, .ref (q 0)), (1, .int v1)]) hx hb dX0_multiplyByFirstPeriod_48 hl (k := 3) rfl rfl (by decide) rfl (fun ls hl => ?_)
      refine lv_goto (tgt := 15) hx hb dX0_multiplyByFirstPeriod_51 (by decide) ?_
      exact ih _ _ _ _ _ z h hE H locs ls hw (lv_sub hl [2, 3, 1, 0] rfl)
def f_X0_multiplyByFirstPeriod_L2 (ze : Int32) (aF : Nat → Int32) : Nat → (Nat → Int64) → (Nat → Int64) → Int32 → Option ((Nat → Int64) × (Nat → Int64))
  | 0, _, _, _ => none
  | fu + 1, lP, lX, v1 =>
    if ze ≤ v1 then
    (f_X4_copyRowK lP lX).bind fun z2 =>
    some (z2, lX)
    else
    f_X0_multiplyByFirstPeriod_L15 ze aF (fun w0 w1 w2 => f_X0_multiplyByFirstPeriod_L2 ze aF fu w0 w1 w2) FU lP lX v1 0 0
set_option maxHeartbeats 4000000 in
set_option maxRecDepth 100000 in
theorem w_X0_multiplyByFirstPeriod_L2  {zp : Int32} {ze : Int32} {zf : Int32} {zg : Int32} {zn : Int32} {aG : Nat → Int32} {aW : Nat → Int32} {aR : Nat → Int32} {aN : Nat → Int32} {aF : Nat → Int32} {lC : Nat → Int64} {lS : Nat → Int64}   (F : Fx p s m args meth c cX0_multiplyByFirstPeriod 5 RX0 none) (hA : ∀ q, s.heap.size ≤ q → A q)   : ∀ (fu : Nat) (lP : Nat → Int64) (lX : Nat → Int64) (v1 : Int32) (z : (Nat → Int64) × (Nat → Int64)), f_X0_multiplyByFirstPeriod_L2 ze aF fu lP lX v1 = some z → Ends p l e (rmOf 1 22) s m args below meth c Q cX0_multiplyByFirstPeriod G A none (none) (kW G q zp ze zf zg zn aG aW aR aN aF lC lS z.1 z.2 ++ fr) → ∀ (H : Heap) (locs : List Loc) (ls : Array Slot), Wd G s A (kW G q zp ze zf zg zn aG aW aR aN aF lC lS lP lX ++ fr) H locs → lv_has ls 5 [(0, .ref (q 0)), (1, .int v1)] → W p l e (rmOf 1 22) s m args below meth c H locs 0 0 Q (F0 m 2 ls []) := by
  have hx := F.x
  have hb := F.b
  intro fu
  induction fu with
  | zero =>
    intro lP lX v1 z h
    cases (h : none = some z)
  | succ fu ih =>
    intro lP lX v1 z h hE H locs ls hw hl
    rw [f_X0_multiplyByFirstPeriod_L2] at h
    refine lv_iload_n hx hb dX0_multiplyByFirstPeriod_2 rfl (lv_at hl 1 rfl) ?_
    refine lv_aload_n hx hb dX0_multiplyByFirstPeriod_3 rfl (lv_at hl 0 rfl) ?_
    refine gf_0_48 F hw dX0_multiplyByFirstPeriod_4 ?_
    refine lv_icmp_ge (tgt := 67) hx hb dX0_multiplyByFirstPeriod_7 (by decide) (fun c1 => ?_) (fun c1 => ?_)
    · replace h := stT c1 h
      refine lv_aload_n hx hb dX0_multiplyByFirstPeriod_67 rfl (lv_at hl 0 rfl) ?_
      refine gf_0_37 F hw dX0_multiplyByFirstPeriod_68 ?_
      refine lv_aload_n hx hb dX0_multiplyByFirstPeriod_71 rfl (lv_at hl 0 rfl) ?_
      refine gf_0_34 F hw dX0_multiplyByFirstPeriod_72 ?_
      obtain ⟨z2, hz2, h⟩ := stB h
      refine ctSN (av := [.ref (q 9), .ref (q 8)]) (st0 := ([] : List Value)) (st1 := ([] : List Value)) (host := RX4) F hw hA (k_X4_copyRowK hz2) (by decide +kernel) kn_X4_copyRow ki_4 ks_X4_copyRow kd_X4_copyRow rfl ⟨by decide, by decide⟩ hl.1 rfl (Nat.le_of_ble_eq_true rfl) dX0_multiplyByFirstPeriod_75 rfl (fun H locs hw => ?_)
      obtain rfl := Option.some.inj h
      exact hE H locs _ ls hw dX0_multiplyByFirstPeriod_78
    · replace h := stF c1 h
      refine lv_lconst (v := 0) hx hb dX0_multiplyByFirstPeriod_10 (by decide) ?_
      refine lv_lstore_n (lv' := [(2, .long 0), (0, .ref (q 0)), (1, .int v1)]) hx hb dX0_multiplyByFirstPeriod_11 rfl hl (by decide) rfl (fun ls hl => ?_)
      refine lv_iconst (v := 0) hx hb dX0_multiplyByFirstPeriod_12 (by decide) ?_
      refine lv_istore (lv' := [(4, .int 0), (2, .long 0), (0, .ref (q 0)), (1, .int v1)]) hx hb dX0_multiplyByFirstPeriod_13 hl (by decide) rfl (fun ls hl => ?_)
      exact w_X0_multiplyByFirstPeriod_L15 F hA  (fun w0 w1 w2 z h hE H locs ls hw hl => ih w0 w1 w2 z h hE H locs ls hw hl) FU _ _ _ _ _ z h hE H locs ls hw (lv_sub hl [2, 3, 1, 0] rfl)
def f_X0_multiplyByFirstPeriod (ze : Int32) (aF : Nat → Int32) (lP : Nat → Int64) (lX : Nat → Int64) : Option ((Nat → Int64) × (Nat → Int64)) :=
  f_X0_multiplyByFirstPeriod_L2 ze aF FU lP lX 0
set_option maxHeartbeats 4000000 in
set_option maxRecDepth 100000 in
theorem k_X0_multiplyByFirstPeriod {l : Launch} {G : GG} {q : Nat → Nat} {fr : va_W}  {zp : Int32} {ze : Int32} {zf : Int32} {zg : Int32} {zn : Int32} {aG : Nat → Int32} {aW : Nat → Int32} {aR : Nat → Int32} {aN : Nat → Int32} {aF : Nat → Int32} {lC : Nat → Int64} {lS : Nat → Int64} {lP : Nat → Int64} {lX : Nat → Int64}  {z : (Nat → Int64) × (Nat → Int64)}  (h : f_X0_multiplyByFirstPeriod ze aF lP lX = some z) : Ct l G yX0_multiplyByFirstPeriod cX0_multiplyByFirstPeriod 5 none 1 22 [.ref (q 0)] (kW G q zp ze zf zg zn aG aW aR aN aF lC lS lP lX ++ fr) (none) (kW G q zp ze zf zg zn aG aW aR aN aF lC lS z.1 z.2 ++ fr) := by
  refine Ct.of (by decide +kernel) (Nat.le_of_ble_eq_true rfl) trivial ?_
  intro p e s m args below meth c Q A ls F hw hA hE hl
  have hx := F.x
  have hb := F.b
  unfold f_X0_multiplyByFirstPeriod at h
  obtain ⟨H, hH⟩ : ∃ H, H = s.heap := ⟨_, rfl⟩
  obtain ⟨locs, hlo⟩ : ∃ locs : List Loc, locs = [] := ⟨_, rfl⟩
  rw [← hH, ← hlo] at hw ⊢
  have hl : lv_has ls 5 [(0, .ref (q 0))] := hl
  refine lv_iconst (v := 0) hx hb dX0_multiplyByFirstPeriod_0 (by decide) ?_
  refine lv_istore_n (lv' := [(1, .int 0), (0, .ref (q 0))]) hx hb dX0_multiplyByFirstPeriod_1 rfl hl (by decide) rfl (fun ls hl => ?_)
  exact w_X0_multiplyByFirstPeriod_L2 F hA  FU _ _ _ z h hE H locs ls hw (lv_sub hl [1, 0] rfl)
end
theorem dX0_findPowerSums_0 : decode cX0_findPowerSums 0 = .ok (.aload_n 0, 1) := by decide +kernel
theorem dX0_findPowerSums_1 : decode cX0_findPowerSums 1 = .ok (.getfield 34, 3) := by decide +kernel
theorem dX0_findPowerSums_4 : decode cX0_findPowerSums 4 = .ok (.iconst 0, 1) := by decide +kernel
theorem dX0_findPowerSums_5 : decode cX0_findPowerSums 5 = .ok (.invokestatic 103, 3) := by decide +kernel
theorem dX0_findPowerSums_8 : decode cX0_findPowerSums 8 = .ok (.iconst 1, 1) := by decide +kernel
theorem dX0_findPowerSums_9 : decode cX0_findPowerSums 9 = .ok (.istore_n 1, 1) := by decide +kernel
theorem dX0_findPowerSums_10 : decode cX0_findPowerSums 10 = .ok (.iload_n 1, 1) := by decide +kernel
theorem dX0_findPowerSums_11 : decode cX0_findPowerSums 11 = .ok (.aload_n 0, 1) := by decide +kernel
theorem dX0_findPowerSums_12 : decode cX0_findPowerSums 12 = .ok (.getfield 48, 3) := by decide +kernel
theorem dX0_findPowerSums_15 : decode cX0_findPowerSums 15 = .ok (.if_icmp .gt 51, 3) := by decide +kernel
theorem dX0_findPowerSums_18 : decode cX0_findPowerSums 18 = .ok (.lconst 0, 1) := by decide +kernel
theorem dX0_findPowerSums_19 : decode cX0_findPowerSums 19 = .ok (.lstore_n 2, 1) := by decide +kernel
theorem dX0_findPowerSums_20 : decode cX0_findPowerSums 20 = .ok (.iconst 0, 1) := by decide +kernel
theorem dX0_findPowerSums_21 : decode cX0_findPowerSums 21 = .ok (.istore 4, 2) := by decide +kernel
theorem dX0_findPowerSums_23 : decode cX0_findPowerSums 23 = .ok (.iload 4, 2) := by decide +kernel
theorem dX0_findPowerSums_25 : decode cX0_findPowerSums 25 = .ok (.aload_n 0, 1) := by decide +kernel
theorem dX0_findPowerSums_26 : decode cX0_findPowerSums 26 = .ok (.getfield 48, 3) := by decide +kernel
theorem dX0_findPowerSums_29 : decode cX0_findPowerSums 29 = .ok (.if_icmp .ge 19, 3) := by decide +kernel
theorem dX0_findPowerSums_32 : decode cX0_findPowerSums 32 = .ok (.lload_n 2, 1) := by decide +kernel
theorem dX0_findPowerSums_33 : decode cX0_findPowerSums 33 = .ok (.aload_n 0, 1) := by decide +kernel
theorem dX0_findPowerSums_34 : decode cX0_findPowerSums 34 = .ok (.getfield 34, 3) := by decide +kernel
theorem dX0_findPowerSums_37 : decode cX0_findPowerSums 37 = .ok (.iload 4, 2) := by decide +kernel
theorem dX0_findPowerSums_39 : decode cX0_findPowerSums 39 = .ok (.laload, 1) := by decide +kernel
theorem dX0_findPowerSums_40 : decode cX0_findPowerSums 40 = .ok (.ladd, 1) := by decide +kernel
theorem dX0_findPowerSums_41 : decode cX0_findPowerSums 41 = .ok (.lstore_n 2, 1) := by decide +kernel
theorem dX0_findPowerSums_42 : decode cX0_findPowerSums 42 = .ok (.iinc 4 1, 3) := by decide +kernel
theorem dX0_findPowerSums_45 : decode cX0_findPowerSums 45 = .ok (.goto (-22), 3) := by decide +kernel
theorem dX0_findPowerSums_48 : decode cX0_findPowerSums 48 = .ok (.aload_n 0, 1) := by decide +kernel
theorem dX0_findPowerSums_49 : decode cX0_findPowerSums 49 = .ok (.getfield 31, 3) := by decide +kernel
theorem dX0_findPowerSums_52 : decode cX0_findPowerSums 52 = .ok (.iload_n 1, 1) := by decide +kernel
theorem dX0_findPowerSums_53 : decode cX0_findPowerSums 53 = .ok (.lload_n 2, 1) := by decide +kernel
theorem dX0_findPowerSums_54 : decode cX0_findPowerSums 54 = .ok (.lneg, 1) := by decide +kernel
theorem dX0_findPowerSums_55 : decode cX0_findPowerSums 55 = .ok (.lastore, 1) := by decide +kernel
theorem dX0_findPowerSums_56 : decode cX0_findPowerSums 56 = .ok (.aload_n 0, 1) := by decide +kernel
theorem dX0_findPowerSums_57 : decode cX0_findPowerSums 57 = .ok (.invokevirtual 107, 3) := by decide +kernel
theorem dX0_findPowerSums_60 : decode cX0_findPowerSums 60 = .ok (.iinc 1 1, 3) := by decide +kernel
theorem dX0_findPowerSums_63 : decode cX0_findPowerSums 63 = .ok (.goto (-53), 3) := by decide +kernel
theorem dX0_findPowerSums_66 : decode cX0_findPowerSums 66 = .ok (.return_, 1) := by decide +kernel
section
variable {p : Program} {l : Launch} {e : Env} {s : State} {m : MethodId} {args : Array Value} {below : List Frame} {meth : Method} {c : Code} {Q : State → Prop} {G : GG} {A : Nat → Prop} {q : Nat → Nat} {fr : va_W}
def f_X0_findPowerSums_L23 (ze : Int32) (aF : Nat → Int32) (KK : (Nat → Int64) → (Nat → Int64) → (Nat → Int64) → Int32 → Option ((Nat → Int64) × (Nat → Int64) × (Nat → Int64))) : Nat → (Nat → Int64) → (Nat → Int64) → (Nat → Int64) → Int32 → Int64 → Int32 → Option ((Nat → Int64) × (Nat → Int64) × (Nat → Int64))
  | 0, _, _, _, _, _, _ => none
  | fu + 1, lS, lP, lX, v1, v2, v4 =>
    if ze ≤ v4 then
    if inb v1 13 then
    (f_X0_multiplyByFirstPeriod ze aF lP lX).bind fun z3 =>
    KK (vp_updL lS v1.toNatClampNeg (-v2)) z3.1 z3.2 (v1 + 1)
    else none
    else
    if inb v4 12 then
    f_X0_findPowerSums_L23 ze aF KK fu lS lP lX v1 (v2 + (lP v4.toNatClampNeg)) (v4 + 1)
    else none
set_option maxHeartbeats 4000000 in
set_option maxRecDepth 100000 in
theorem w_X0_findPowerSums_L23  {zp : Int32} {ze : Int32} {zf : Int32} {zg : Int32} {zn : Int32} {aG : Nat → Int32} {aW : Nat → Int32} {aR : Nat → Int32} {aN : Nat → Int32} {aF : Nat → Int32} {lC : Nat → Int64}  {KK : (Nat → Int64) → (Nat → Int64) → (Nat → Int64) → Int32 → Option ((Nat → Int64) × (Nat → Int64) × (Nat → Int64))} (F : Fx p s m args meth c cX0_findPowerSums 5 RX0 none) (hA : ∀ q, s.heap.size ≤ q → A q)  (hK : ∀ (lS : Nat → Int64) (lP : Nat → Int64) (lX : Nat → Int64) (v1 : Int32) (z : (Nat → Int64) × (Nat → Int64) × (Nat → Int64)), KK lS lP lX v1 = some z → Ends p l e (rmOf 2 46) s m args below meth c Q cX0_findPowerSums G A none (none) (kW G q zp ze zf zg zn aG aW aR aN aF lC z.1 z.2.1 z.2.2 ++ fr) → ∀ (H : Heap) (locs : List Loc) (ls : Array Slot), Wd G s A (kW G q zp ze zf zg zn aG aW aR aN aF lC lS lP lX ++ fr) H locs → lv_has ls 5 [(0, .ref (q 0)), (1, .int v1)] → W p l e (rmOf 2 46) s m args below meth c H locs 0 0 Q (F0 m 10 ls [])) : ∀ (fu : Nat) (lS : Nat → Int64) (lP : Nat → Int64) (lX : Nat → Int64) (v1 : Int32) (v2 : Int64) (v4 : Int32) (z : (Nat → Int64) × (Nat → Int64) × (Nat → Int64)), f_X0_findPowerSums_L23 ze aF KK fu lS lP lX v1 v2 v4 = some z → Ends p l e (rmOf 2 46) s m args below meth c Q cX0_findPowerSums G A none (none) (kW G q zp ze zf zg zn aG aW aR aN aF lC z.1 z.2.1 z.2.2 ++ fr) → ∀ (H : Heap) (locs : List Loc) (ls : Array Slot), Wd G s A (kW G q zp ze zf zg zn aG aW aR aN aF lC lS lP lX ++ fr) H locs → lv_has ls 5 [(0, .ref (q 0)), (1, .int v1), (2, .long v2), (4, .int v4)] → W p l e (rmOf 2 46) s m args below meth c H locs 0 0 Q (F0 m 23 ls []) := by
  have hx := F.x
  have hb := F.b
  intro fu
  induction fu with
  | zero =>
    intro lS lP lX v1 v2 v4 z h
    cases (h : none = some z)
  | succ fu ih =>
    intro lS lP lX v1 v2 v4 z h hE H locs ls hw hl
    rw [f_X0_findPowerSums_L23] at h
    refine lv_iload hx hb dX0_findPowerSums_23 (lv_at hl 3 rfl) ?_
    refine lv_aload_n hx hb dX0_findPowerSums_25 rfl (lv_at hl 0 rfl) ?_
    refine gf_0_48 F hw dX0_findPowerSums_26 ?_
    refine lv_icmp_ge (tgt := 48) hx hb dX0_findPowerSums_29 (by decide) (fun c1 => ?_) (fun c1 => ?_)
    · replace h := stT c1 h
      refine lv_aload_n hx hb dX0_findPowerSums_48 rfl (lv_at hl 0 rfl) ?_
      refine gf_0_31 F hw dX0_findPowerSums_49 ?_
      refine lv_iload_n hx hb dX0_findPowerSums_52 rfl (lv_at hl 1 rfl) ?_
      refine lv_lload_n hx hb dX0_findPowerSums_53 rfl (lv_at hl 2 rfl) ?_
      refine lv_lneg hx hb dX0_findPowerSums_54 ?_
      obtain ⟨g2, h⟩ := stG h
      refine as_c7 F hw g2 dX0_findPowerSums_55 (fun H locs hw => ?_)
      refine lv_aload_n hx hb dX0_findPowerSums_56 rfl (lv_at hl 0 rfl) ?_
      obtain ⟨z3, hz3, h⟩ := stB h
      refine ctV (av := []) (st0 := ([] : List Value)) (st1 := ([] : List Value)) F hw hA (k_X0_multiplyByFirstPeriod hz3) kl_0_107 kd_X0_multiplyByFirstPeriod rfl ⟨by decide, by decide⟩ 0 rfl rfl hl.1 rfl (Nat.le_of_ble_eq_true rfl) dX0_findPowerSums_57 rfl (fun H locs hw => ?_)
      refine lv_iinc (v := (v1 + 1)) (lv' := [(1, .int (v1 + 1)), (0, .ref (q 0)), (2, .long v2), (4, .int v4)]) hx hb dX0_findPowerSums_60 hl (k := 1) rfl rfl (by decide) rfl (fun ls hl => ?_)
      refine lv_goto (tgt := 10) hx hb dX0_findPowerSums_63 (by decide) ?_
      exact hK _ _ _ _ z h hE H locs ls hw (lv_sub hl [1, 0] rfl)
    · replace h := stF c1 h
      refine lv_lload_n hx hb dX0_findPowerSums_32 rfl (lv_at hl 2 rfl) ?_
      refine lv_aload_n hx hb dX0_findPowerSums_33 rfl (lv_at hl 0 rfl) ?_
      refine gf_0_34 F hw dX0_findPowerSums_34 ?_
      refine lv_iload hx hb dX0_findPowerSums_37 (lv_at hl 3 rfl) ?_
      obtain ⟨g4, h⟩ := stG h
      refine al_c8 F hw g4 dX0_findPowerSums_39 ?_
      refine lv_ladd hx hb dX0_findPowerSums_40 ?_
      refine lv_lstore_n (lv' := [(2, .long (v2 + (lP v4.toNatClampNeg))), (0, .ref (q 0)), (1, .int v1), (4, .int v4)]) hx hb dX0_findPowerSums_41 rfl hl (by decide) rfl (fun ls hl => ?_)
      refine lv_iinc (v := (v4 + 1)) (lv' := [(4, .int (v4 + 1)), (2, .long (v2 + (lP v4.toNatClampNeg))), (0, .ref (q 0)), (1, .int v1)]) hx hb dX0_findPowerSums_42 hl (k := 3) rfl rfl (by decide) rfl (fun ls hl => ?_)
      refine lv_goto (tgt := 23) hx hb dX0_findPowerSums_45 (by decide) ?_
      exact ih _ _ _ _ _ _ z h hE H locs ls hw (lv_sub hl [2, 3, 1, 0] rfl)
def f_X0_findPowerSums_L10 (ze : Int32) (aF : Nat → Int32) : Nat → (Nat → Int64) → (Nat → Int64) → (Nat → Int64) → Int32 → Option ((Nat → Int64) × (Nat → Int64) × (Nat → Int64))
  | 0, _, _, _, _ => none
  | fu + 1, lS, lP, lX, v1 =>
    if ze < v1 then
    some (lS, lP, lX)
    else
    f_X0_findPowerSums_L23 ze aF (fun w0 w1 w2 w3 => f_X0_findPowerSums_L10 ze aF fu w0 w1 w2 w3) FU lS lP lX v1 0 0
set_option maxHeartbeats 4000000 in
set_option maxRecDepth 100000 in
theorem w_X0_findPowerSums_L10  {zp : Int32} {ze : Int32} {zf : Int32} {zg : Int32} {zn : Int32} {aG : Nat → Int32} {aW : Nat → Int32} {aR : Nat → Int32} {aN : Nat → Int32} {aF : Nat → Int32} {lC : Nat → Int64}   (F : Fx p s m args meth c cX0_findPowerSums 5 RX0 none) (hA : ∀ q, s.heap.size ≤ q → A q)   : ∀ (fu : Nat) (lS : Nat → Int64) (lP : Nat → Int64) (lX : Nat → Int64) (v1 : Int32) (z : (Nat → Int64) × (Nat → Int64) × (Nat → Int64)), f_X0_findPowerSums_L10 ze aF fu lS lP lX v1 = some z → Ends p l e (rmOf 2 46) s m args below meth c Q cX0_findPowerSums G A none (none) (kW G q zp ze zf zg zn aG aW aR aN aF lC z.1 z.2.1 z.2.2 ++ fr) → ∀ (H : Heap) (locs : List Loc) (ls : Array Slot), Wd G s A (kW G q zp ze zf zg zn aG aW aR aN aF lC lS lP lX ++ fr) H locs → lv_has ls 5 [(0, .ref (q 0)), (1, .int v1)] → W p l e (rmOf 2 46) s m args below meth c H locs 0 0 Q (F0 m 10 ls []) := by
  have hx := F.x
  have hb := F.b
  intro fu
  induction fu with
  | zero =>
    intro lS lP lX v1 z h
    cases (h : none = some z)
  | succ fu ih =>
    intro lS lP lX v1 z h hE H locs ls hw hl
    rw [f_X0_findPowerSums_L10] at h
    refine lv_iload_n hx hb dX0_findPowerSums_10 rfl (lv_at hl 1 rfl) ?_
    refine lv_aload_n hx hb dX0_findPowerSums_11 rfl (lv_at hl 0 rfl) ?_
    refine gf_0_48 F hw dX0_findPowerSums_12 ?_
    refine lv_icmp_gt (tgt := 66) hx hb dX0_findPowerSums_15 (by decide) (fun c1 => ?_) (fun c1 => ?_)
    · replace h := stT c1 h
      obtain rfl := Option.some.inj h
      exact hE H locs _ ls hw dX0_findPowerSums_66
    · replace h := stF c1 h
      refine lv_lconst (v := 0) hx hb dX0_findPowerSums_18 (by decide) ?_
      refine lv_lstore_n (lv' := [(2, .long 0), (0, .ref (q 0)), (1, .int v1)]) hx hb dX0_findPowerSums_19 rfl hl (by decide) rfl (fun ls hl => ?_)
      refine lv_iconst (v := 0) hx hb dX0_findPowerSums_20 (by decide) ?_
      refine lv_istore (lv' := [(4, .int 0), (2, .long 0), (0, .ref (q 0)), (1, .int v1)]) hx hb dX0_findPowerSums_21 hl (by decide) rfl (fun ls hl => ?_)
      exact w_X0_findPowerSums_L23 F hA  (fun w0 w1 w2 w3 z h hE H locs ls hw hl => ih w0 w1 w2 w3 z h hE H locs ls hw hl) FU _ _ _ _ _ _ z h hE H locs ls hw (lv_sub hl [2, 3, 1, 0] rfl)
def f_X0_findPowerSums (ze : Int32) (aF : Nat → Int32) (lS : Nat → Int64) (lP : Nat → Int64) (lX : Nat → Int64) : Option ((Nat → Int64) × (Nat → Int64) × (Nat → Int64)) :=
  (f_X4_setPeriodK lP 0).bind fun z1 =>
  f_X0_findPowerSums_L10 ze aF FU lS z1 lX 1
set_option maxHeartbeats 4000000 in
set_option maxRecDepth 100000 in
theorem k_X0_findPowerSums {l : Launch} {G : GG} {q : Nat → Nat} {fr : va_W}  {zp : Int32} {ze : Int32} {zf : Int32} {zg : Int32} {zn : Int32} {aG : Nat → Int32} {aW : Nat → Int32} {aR : Nat → Int32} {aN : Nat → Int32} {aF : Nat → Int32} {lC : Nat → Int64} {lS : Nat → Int64} {lP : Nat → Int64} {lX : Nat → Int64}  {z : (Nat → Int64) × (Nat → Int64) × (Nat → Int64)}  (h : f_X0_findPowerSums ze aF lS lP lX = some z) : Ct l G yX0_findPowerSums cX0_findPowerSums 5 none 2 46 [.ref (q 0)] (kW G q zp ze zf zg zn aG aW aR aN aF lC lS lP lX ++ fr) (none) (kW G q zp ze zf zg zn aG aW aR aN aF lC z.1 z.2.1 z.2.2 ++ fr) := by
  refine Ct.of (by decide +kernel) (Nat.le_of_ble_eq_true rfl) trivial ?_
  intro p e s m args below meth c Q A ls F hw hA hE hl
  have hx := F.x
  have hb := F.b
  unfold f_X0_findPowerSums at h
  obtain ⟨H, hH⟩ : ∃ H, H = s.heap := ⟨_, rfl⟩
  obtain ⟨locs, hlo⟩ : ∃ locs : List Loc, locs = [] := ⟨_, rfl⟩
  rw [← hH, ← hlo] at hw ⊢
  have hl : lv_has ls 5 [(0, .ref (q 0))] := hl
  refine lv_aload_n hx hb dX0_findPowerSums_0 rfl (lv_at hl 0 rfl) ?_
  refine gf_0_34 F hw dX0_findPowerSums_1 ?_
  refine lv_iconst (v := 0) hx hb dX0_findPowerSums_4 (by decide) ?_
  obtain ⟨z1, hz1, h⟩ := stB h
  refine ctSN (av := [.ref (q 8), .int 0]) (st0 := ([] : List Value)) (st1 := ([] : List Value)) (host := RX4) F hw hA (k_X4_setPeriodK hz1) (by decide +kernel) kn_X4_setPeriod ki_4 ks_X4_setPeriod kd_X4_setPeriod rfl ⟨by decide, by decide⟩ hl.1 rfl (Nat.le_of_ble_eq_true rfl) dX0_findPowerSums_5 rfl (fun H locs hw => ?_)
  refine lv_iconst (v := 1) hx hb dX0_findPowerSums_8 (by decide) ?_
  refine lv_istore_n (lv' := [(1, .int 1), (0, .ref (q 0))]) hx hb dX0_findPowerSums_9 rfl hl (by decide) rfl (fun ls hl => ?_)
  exact w_X0_findPowerSums_L10 F hA  FU _ _ _ _ z h hE H locs ls hw (lv_sub hl [1, 0] rfl)
end
theorem dX0_findPolynomial_0 : decode cX0_findPolynomial 0 = .ok (.aload_n 0, 1) := by decide +kernel
theorem dX0_findPolynomial_1 : decode cX0_findPolynomial 1 = .ok (.invokevirtual 100, 3) := by decide +kernel
theorem dX0_findPolynomial_4 : decode cX0_findPolynomial 4 = .ok (.aload_n 0, 1) := by decide +kernel
theorem dX0_findPolynomial_5 : decode cX0_findPolynomial 5 = .ok (.getfield 27, 3) := by decide +kernel
theorem dX0_findPolynomial_8 : decode cX0_findPolynomial 8 = .ok (.aload_n 0, 1) := by decide +kernel
theorem dX0_findPolynomial_9 : decode cX0_findPolynomial 9 = .ok (.getfield 48, 3) := by decide +kernel
theorem dX0_findPolynomial_12 : decode cX0_findPolynomial 12 = .ok (.lconst 1, 1) := by decide +kernel
theorem dX0_findPolynomial_13 : decode cX0_findPolynomial 13 = .ok (.lastore, 1) := by decide +kernel
theorem dX0_findPolynomial_14 : decode cX0_findPolynomial 14 = .ok (.iconst 1, 1) := by decide +kernel
theorem dX0_findPolynomial_15 : decode cX0_findPolynomial 15 = .ok (.istore_n 1, 1) := by decide +kernel
theorem dX0_findPolynomial_16 : decode cX0_findPolynomial 16 = .ok (.iload_n 1, 1) := by decide +kernel
theorem dX0_findPolynomial_17 : decode cX0_findPolynomial 17 = .ok (.aload_n 0, 1) := by decide +kernel
theorem dX0_findPolynomial_18 : decode cX0_findPolynomial 18 = .ok (.getfield 48, 3) := by decide +kernel
theorem dX0_findPolynomial_21 : decode cX0_findPolynomial 21 = .ok (.if_icmp .gt 67, 3) := by decide +kernel
theorem dX0_findPolynomial_24 : decode cX0_findPolynomial 24 = .ok (.lconst 0, 1) := by decide +kernel
theorem dX0_findPolynomial_25 : decode cX0_findPolynomial 25 = .ok (.lstore_n 2, 1) := by decide +kernel
theorem dX0_findPolynomial_26 : decode cX0_findPolynomial 26 = .ok (.iconst 1, 1) := by decide +kernel
theorem dX0_findPolynomial_27 : decode cX0_findPolynomial 27 = .ok (.istore 4, 2) := by decide +kernel
theorem dX0_findPolynomial_29 : decode cX0_findPolynomial 29 = .ok (.iload 4, 2) := by decide +kernel
theorem dX0_findPolynomial_31 : decode cX0_findPolynomial 31 = .ok (.iload_n 1, 1) := by decide +kernel
theorem dX0_findPolynomial_32 : decode cX0_findPolynomial 32 = .ok (.if_icmp .gt 34, 3) := by decide +kernel
theorem dX0_findPolynomial_35 : decode cX0_findPolynomial 35 = .ok (.lload_n 2, 1) := by decide +kernel
theorem dX0_findPolynomial_36 : decode cX0_findPolynomial 36 = .ok (.aload_n 0, 1) := by decide +kernel
theorem dX0_findPolynomial_37 : decode cX0_findPolynomial 37 = .ok (.getfield 31, 3) := by decide +kernel
theorem dX0_findPolynomial_40 : decode cX0_findPolynomial 40 = .ok (.iload 4, 2) := by decide +kernel
theorem dX0_findPolynomial_42 : decode cX0_findPolynomial 42 = .ok (.laload, 1) := by decide +kernel
theorem dX0_findPolynomial_43 : decode cX0_findPolynomial 43 = .ok (.aload_n 0, 1) := by decide +kernel
theorem dX0_findPolynomial_44 : decode cX0_findPolynomial 44 = .ok (.getfield 27, 3) := by decide +kernel
theorem dX0_findPolynomial_47 : decode cX0_findPolynomial 47 = .ok (.aload_n 0, 1) := by decide +kernel
theorem dX0_findPolynomial_48 : decode cX0_findPolynomial 48 = .ok (.getfield 48, 3) := by decide +kernel
theorem dX0_findPolynomial_51 : decode cX0_findPolynomial 51 = .ok (.iload_n 1, 1) := by decide +kernel
theorem dX0_findPolynomial_52 : decode cX0_findPolynomial 52 = .ok (.isub, 1) := by decide +kernel
theorem dX0_findPolynomial_53 : decode cX0_findPolynomial 53 = .ok (.iload 4, 2) := by decide +kernel
theorem dX0_findPolynomial_55 : decode cX0_findPolynomial 55 = .ok (.iadd, 1) := by decide +kernel
theorem dX0_findPolynomial_56 : decode cX0_findPolynomial 56 = .ok (.laload, 1) := by decide +kernel
theorem dX0_findPolynomial_57 : decode cX0_findPolynomial 57 = .ok (.lmul, 1) := by decide +kernel
theorem dX0_findPolynomial_58 : decode cX0_findPolynomial 58 = .ok (.ladd, 1) := by decide +kernel
theorem dX0_findPolynomial_59 : decode cX0_findPolynomial 59 = .ok (.lstore_n 2, 1) := by decide +kernel
theorem dX0_findPolynomial_60 : decode cX0_findPolynomial 60 = .ok (.iinc 4 1, 3) := by decide +kernel
theorem dX0_findPolynomial_63 : decode cX0_findPolynomial 63 = .ok (.goto (-34), 3) := by decide +kernel
theorem dX0_findPolynomial_66 : decode cX0_findPolynomial 66 = .ok (.aload_n 0, 1) := by decide +kernel
theorem dX0_findPolynomial_67 : decode cX0_findPolynomial 67 = .ok (.getfield 27, 3) := by decide +kernel
theorem dX0_findPolynomial_70 : decode cX0_findPolynomial 70 = .ok (.aload_n 0, 1) := by decide +kernel
theorem dX0_findPolynomial_71 : decode cX0_findPolynomial 71 = .ok (.getfield 48, 3) := by decide +kernel
theorem dX0_findPolynomial_74 : decode cX0_findPolynomial 74 = .ok (.iload_n 1, 1) := by decide +kernel
theorem dX0_findPolynomial_75 : decode cX0_findPolynomial 75 = .ok (.isub, 1) := by decide +kernel
theorem dX0_findPolynomial_76 : decode cX0_findPolynomial 76 = .ok (.lload_n 2, 1) := by decide +kernel
theorem dX0_findPolynomial_77 : decode cX0_findPolynomial 77 = .ok (.lneg, 1) := by decide +kernel
theorem dX0_findPolynomial_78 : decode cX0_findPolynomial 78 = .ok (.iload_n 1, 1) := by decide +kernel
theorem dX0_findPolynomial_79 : decode cX0_findPolynomial 79 = .ok (.i2l, 1) := by decide +kernel
theorem dX0_findPolynomial_80 : decode cX0_findPolynomial 80 = .ok (.ldiv, 1) := by decide +kernel
theorem dX0_findPolynomial_81 : decode cX0_findPolynomial 81 = .ok (.lastore, 1) := by decide +kernel
theorem dX0_findPolynomial_82 : decode cX0_findPolynomial 82 = .ok (.iinc 1 1, 3) := by decide +kernel
theorem dX0_findPolynomial_85 : decode cX0_findPolynomial 85 = .ok (.goto (-69), 3) := by decide +kernel
theorem dX0_findPolynomial_88 : decode cX0_findPolynomial 88 = .ok (.return_, 1) := by decide +kernel
section
variable {p : Program} {l : Launch} {e : Env} {s : State} {m : MethodId} {args : Array Value} {below : List Frame} {meth : Method} {c : Code} {Q : State → Prop} {G : GG} {A : Nat → Prop} {q : Nat → Nat} {fr : va_W}
def f_X0_findPolynomial_L29 (ze : Int32) (aF : Nat → Int32) (KK : (Nat → Int64) → (Nat → Int64) → (Nat → Int64) → (Nat → Int64) → Int32 → Option ((Nat → Int64) × (Nat → Int64) × (Nat → Int64) × (Nat → Int64))) : Nat → (Nat → Int64) → (Nat → Int64) → (Nat → Int64) → (Nat → Int64) → Int32 → Int64 → Int32 → Option ((Nat → Int64) × (Nat → Int64) × (Nat → Int64) × (Nat → Int64))
  | 0, _, _, _, _, _, _, _ => none
  | fu + 1, lC, lS, lP, lX, v1, v2, v4 =>
    if v1 < v4 then
    if v1.toInt64 = 0 then none else
    if inb (ze - v1) 13 then
    KK (vp_updL lC (ze - v1).toNatClampNeg ((-v2) / v1.toInt64)) lS lP lX (v1 + 1)
    else none
    else
    if inb v4 13 then
    if inb ((ze - v1) + v4) 13 then
    f_X0_findPolynomial_L29 ze aF KK fu lC lS lP lX v1 (v2 + ((lS v4.toNatClampNeg) * (lC ((ze - v1) + v4).toNatClampNeg))) (v4 + 1)
    else none
    else none
set_option maxHeartbeats 4000000 in
set_option maxRecDepth 100000 in
theorem w_X0_findPolynomial_L29  {zp : Int32} {ze : Int32} {zf : Int32} {zg : Int32} {zn : Int32} {aG : Nat → Int32} {aW : Nat → Int32} {aR : Nat → Int32} {aN : Nat → Int32} {aF : Nat → Int32}  {KK : (Nat → Int64) → (Nat → Int64) → (Nat → Int64) → (Nat → Int64) → Int32 → Option ((Nat → Int64) × (Nat → Int64) × (Nat → Int64) × (Nat → Int64))} (F : Fx p s m args meth c cX0_findPolynomial 5 RX0 none) (hA : ∀ q, s.heap.size ≤ q → A q)  (hK : ∀ (lC : Nat → Int64) (lS : Nat → Int64) (lP : Nat → Int64) (lX : Nat → Int64) (v1 : Int32) (z : (Nat → Int64) × (Nat → Int64) × (Nat → Int64) × (Nat → Int64)), KK lC lS lP lX v1 = some z → Ends p l e (rmOf 3 70) s m args below meth c Q cX0_findPolynomial G A none (none) (kW G q zp ze zf zg zn aG aW aR aN aF z.1 z.2.1 z.2.2.1 z.2.2.2 ++ fr) → ∀ (H : Heap) (locs : List Loc) (ls : Array Slot), Wd G s A (kW G q zp ze zf zg zn aG aW aR aN aF lC lS lP lX ++ fr) H locs → lv_has ls 5 [(0, .ref (q 0)), (1, .int v1)] → W p l e (rmOf 3 70) s m args below meth c H locs 0 0 Q (F0 m 16 ls [])) : ∀ (fu : Nat) (lC : Nat → Int64) (lS : Nat → Int64) (lP : Nat → Int64) (lX : Nat → Int64) (v1 : Int32) (v2 : Int64) (v4 : Int32) (z : (Nat → Int64) × (Nat → Int64) × (Nat → Int64) × (Nat → Int64)), f_X0_findPolynomial_L29 ze aF KK fu lC lS lP lX v1 v2 v4 = some z → Ends p l e (rmOf 3 70) s m args below meth c Q cX0_findPolynomial G A none (none) (kW G q zp ze zf zg zn aG aW aR aN aF z.1 z.2.1 z.2.2.1 z.2.2.2 ++ fr) → ∀ (H : Heap) (locs : List Loc) (ls : Array Slot), Wd G s A (kW G q zp ze zf zg zn aG aW aR aN aF lC lS lP lX ++ fr) H locs → lv_has ls 5 [(0, .ref (q 0)), (1, .int v1), (2, .long v2), (4, .int v4)] → W p l e (rmOf 3 70) s m args below meth c H locs 0 0 Q (F0 m 29 ls []) := by
  have hx := F.x
  have hb := F.b
  intro fu
  induction fu with
  | zero =>
    intro lC lS lP lX v1 v2 v4 z h
    cases (h : none = some z)
  | succ fu ih =>
    intro lC lS lP lX v1 v2 v4 z h hE H locs ls hw hl
    rw [f_X0_findPolynomial_L29] at h
    refine lv_iload hx hb dX0_findPolynomial_29 (lv_at hl 3 rfl) ?_
    refine lv_iload_n hx hb dX0_findPolynomial_31 rfl (lv_at hl 1 rfl) ?_
    refine lv_icmp_gt (tgt := 66) hx hb dX0_findPolynomial_32 (by decide) (fun c1 => ?_) (fun c1 => ?_)
    · replace h := stT c1 h
      refine lv_aload_n hx hb dX0_findPolynomial_66 rfl (lv_at hl 0 rfl) ?_
      refine gf_0_27 F hw dX0_findPolynomial_67 ?_
      refine lv_aload_n hx hb dX0_findPolynomial_70 rfl (lv_at hl 0 rfl) ?_
      refine gf_0_48 F hw dX0_findPolynomial_71 ?_
      refine lv_iload_n hx hb dX0_findPolynomial_74 rfl (lv_at hl 1 rfl) ?_
      refine lv_isub hx hb dX0_findPolynomial_75 ?_
      refine lv_lload_n hx hb dX0_findPolynomial_76 rfl (lv_at hl 2 rfl) ?_
      refine lv_lneg hx hb dX0_findPolynomial_77 ?_
      refine lv_iload_n hx hb dX0_findPolynomial_78 rfl (lv_at hl 1 rfl) ?_
      refine lv_i2l (v := v1.toInt64) hx hb dX0_findPolynomial_79 rfl ?_
      obtain ⟨g2, h⟩ := stD h
      refine lv_ldiv hx hb dX0_findPolynomial_80 g2 ?_
      obtain ⟨g3, h⟩ := stG h
      refine as_c6 F hw g3 dX0_findPolynomial_81 (fun H locs hw => ?_)
      refine lv_iinc (v := (v1 + 1)) (lv' := [(1, .int (v1 + 1)), (0, .ref (q 0)), (2, .long v2), (4, .int v4)]) hx hb dX0_findPolynomial_82 hl (k := 1) rfl rfl (by decide) rfl (fun ls hl => ?_)
      refine lv_goto (tgt := 16) hx hb dX0_findPolynomial_85 (by decide) ?_
      exact hK _ _ _ _ _ z h hE H locs ls hw (lv_sub hl [1, 0] rfl)
    · replace h := stF c1 h
      refine lv_lload_n hx hb dX0_findPolynomial_35 rfl (lv_at hl 2 rfl) ?_
      refine lv_aload_n hx hb dX0_findPolynomial_36 rfl (lv_at hl 0 rfl) ?_
      refine gf_0_31 F hw dX0_findPolynomial_37 ?_
      refine lv_iload hx hb dX0_findPolynomial_40 (lv_at hl 3 rfl) ?_
      obtain ⟨g4, h⟩ := stG h
      refine al_c7 F hw g4 dX0_findPolynomial_42 ?_
      refine lv_aload_n hx hb dX0_findPolynomial_43 rfl (lv_at hl 0 rfl) ?_
      refine gf_0_27 F hw dX0_findPolynomial_44 ?_
      refine lv_aload_n hx hb dX0_findPolynomial_47 rfl (lv_at hl 0 rfl) ?_
      refine gf_0_48 F hw dX0_findPolynomial_48 ?_
      refine lv_iload_n hx hb dX0_findPolynomial_51 rfl (lv_at hl 1 rfl) ?_
      refine lv_isub hx hb dX0_findPolynomial_52 ?_
      refine lv_iload hx hb dX0_findPolynomial_53 (lv_at hl 3 rfl) ?_
      refine lv_iadd hx hb dX0_findPolynomial_55 ?_
      obtain ⟨g5, h⟩ := stG h
      refine al_c6 F hw g5 dX0_findPolynomial_56 ?_
      refine lv_lmul hx hb dX0_findPolynomial_57 ?_
      refine lv_ladd hx hb dX0_findPolynomial_58 ?_
      refine lv_lstore_n (lv' := [(2, .long (v2 + ((lS v4.toNatClampNeg) * (lC ((ze - v1) + v4).toNatClampNeg)))), (0, .ref (q 0)), (1, .int v1), (4, .int v4)]) hx hb dX0_findPolynomial_59 rfl hl (by decide) rfl (fun ls hl => ?_)
      refine lv_iinc (v := (v4 + 1)) (lv' := [(4, .int (v4 + 1)), (2, .long (v2 + ((lS v4.toNatClampNeg) * (lC ((ze - v1) + v4).toNatClampNeg)))), (0, .ref (q 0)), (1, .int v1)]) hx hb dX0_findPolynomial_60 hl (k := 3) rfl rfl (by decide) rfl (fun ls hl => ?_)
      refine lv_goto (tgt := 29) hx hb dX0_findPolynomial_63 (by decide) ?_
      exact ih _ _ _ _ _ _ _ z h hE H locs ls hw (lv_sub hl [2, 3, 1, 0] rfl)
def f_X0_findPolynomial_L16 (ze : Int32) (aF : Nat → Int32) : Nat → (Nat → Int64) → (Nat → Int64) → (Nat → Int64) → (Nat → Int64) → Int32 → Option ((Nat → Int64) × (Nat → Int64) × (Nat → Int64) × (Nat → Int64))
  | 0, _, _, _, _, _ => none
  | fu + 1, lC, lS, lP, lX, v1 =>
    if ze < v1 then
    some (lC, lS, lP, lX)
    else
    f_X0_findPolynomial_L29 ze aF (fun w0 w1 w2 w3 w4 => f_X0_findPolynomial_L16 ze aF fu w0 w1 w2 w3 w4) FU lC lS lP lX v1 0 1
set_option maxHeartbeats 4000000 in
set_option maxRecDepth 100000 in
theorem w_X0_findPolynomial_L16  {zp : Int32} {ze : Int32} {zf : Int32} {zg : Int32} {zn : Int32} {aG : Nat → Int32} {aW : Nat → Int32} {aR : Nat → Int32} {aN : Nat → Int32} {aF : Nat → Int32}   (F : Fx p s m args meth c cX0_findPolynomial 5 RX0 none) (hA : ∀ q, s.heap.size ≤ q → A q)   : ∀ (fu : Nat) (lC : Nat → Int64) (lS : Nat → Int64) (lP : Nat → Int64) (lX : Nat → Int64) (v1 : Int32) (z : (Nat → Int64) × (Nat → Int64) × (Nat → Int64) × (Nat → Int64)), f_X0_findPolynomial_L16 ze aF fu lC lS lP lX v1 = some z → Ends p l e (rmOf 3 70) s m args below meth c Q cX0_findPolynomial G A none (none) (kW G q zp ze zf zg zn aG aW aR aN aF z.1 z.2.1 z.2.2.1 z.2.2.2 ++ fr) → ∀ (H : Heap) (locs : List Loc) (ls : Array Slot), Wd G s A (kW G q zp ze zf zg zn aG aW aR aN aF lC lS lP lX ++ fr) H locs → lv_has ls 5 [(0, .ref (q 0)), (1, .int v1)] → W p l e (rmOf 3 70) s m args below meth c H locs 0 0 Q (F0 m 16 ls []) := by
  have hx := F.x
  have hb := F.b
  intro fu
  induction fu with
  | zero =>
    intro lC lS lP lX v1 z h
    cases (h : none = some z)
  | succ fu ih =>
    intro lC lS lP lX v1 z h hE H locs ls hw hl
    rw [f_X0_findPolynomial_L16] at h
    refine lv_iload_n hx hb dX0_findPolynomial_16 rfl (lv_at hl 1 rfl) ?_
    refine lv_aload_n hx hb dX0_findPolynomial_17 rfl (lv_at hl 0 rfl) ?_
    refine gf_0_48 F hw dX0_findPolynomial_18 ?_
    refine lv_icmp_gt (tgt := 88) hx hb dX0_findPolynomial_21 (by decide) (fun c1 => ?_) (fun c1 => ?_)
    · replace h := stT c1 h
      obtain rfl := Option.some.inj h
      exact hE H locs _ ls hw dX0_findPolynomial_88
    · replace h := stF c1 h
      refine lv_lconst (v := 0) hx hb dX0_findPolynomial_24 (by decide) ?_
      refine lv_lstore_n (lv' := [(2, .long 0), (0, .ref (q 0)), (1, .int v1)]) hx hb dX0_findPolynomial_25 rfl hl (by decide) rfl (fun ls hl => ?_)
      refine lv_iconst (v := 1) hx hb dX0_findPolynomial_26 (by decide) ?_
      refine lv_istore (lv' := [(4, .int 1), (2, .long 0), (0, .ref (q 0)), (1, .int v1)]) hx hb dX0_findPolynomial_27 hl (by decide) rfl (fun ls hl => ?_)
      exact w_X0_findPolynomial_L29 F hA  (fun w0 w1 w2 w3 w4 z h hE H locs ls hw hl => ih w0 w1 w2 w3 w4 z h hE H locs ls hw hl) FU _ _ _ _ _ _ _ z h hE H locs ls hw (lv_sub hl [2, 3, 1, 0] rfl)
def f_X0_findPolynomial (ze : Int32) (aF : Nat → Int32) (lC : Nat → Int64) (lS : Nat → Int64) (lP : Nat → Int64) (lX : Nat → Int64) : Option ((Nat → Int64) × (Nat → Int64) × (Nat → Int64) × (Nat → Int64)) :=
  (f_X0_findPowerSums ze aF lS lP lX).bind fun z1 =>
  if inb ze 13 then
  f_X0_findPolynomial_L16 ze aF FU (vp_updL lC ze.toNatClampNeg 1) z1.1 z1.2.1 z1.2.2 1
  else none
set_option maxHeartbeats 4000000 in
set_option maxRecDepth 100000 in
theorem k_X0_findPolynomial {l : Launch} {G : GG} {q : Nat → Nat} {fr : va_W}  {zp : Int32} {ze : Int32} {zf : Int32} {zg : Int32} {zn : Int32} {aG : Nat → Int32} {aW : Nat → Int32} {aR : Nat → Int32} {aN : Nat → Int32} {aF : Nat → Int32} {lC : Nat → Int64} {lS : Nat → Int64} {lP : Nat → Int64} {lX : Nat → Int64}  {z : (Nat → Int64) × (Nat → Int64) × (Nat → Int64) × (Nat → Int64)}  (h : f_X0_findPolynomial ze aF lC lS lP lX = some z) : Ct l G yX0_findPolynomial cX0_findPolynomial 5 none 3 70 [.ref (q 0)] (kW G q zp ze zf zg zn aG aW aR aN aF lC lS lP lX ++ fr) (none) (kW G q zp ze zf zg zn aG aW aR aN aF z.1 z.2.1 z.2.2.1 z.2.2.2 ++ fr) := by
  refine Ct.of (by decide +kernel) (Nat.le_of_ble_eq_true rfl) trivial ?_
  intro p e s m args below meth c Q A ls F hw hA hE hl
  have hx := F.x
  have hb := F.b
  unfold f_X0_findPolynomial at h
  obtain ⟨H, hH⟩ : ∃ H, H = s.heap := ⟨_, rfl⟩
  obtain ⟨locs, hlo⟩ : ∃ locs : List Loc, locs = [] := ⟨_, rfl⟩
  rw [← hH, ← hlo] at hw ⊢
  have hl : lv_has ls 5 [(0, .ref (q 0))] := hl
  refine lv_aload_n hx hb dX0_findPolynomial_0 rfl (lv_at hl 0 rfl) ?_
  obtain ⟨z1, hz1, h⟩ := stB h
  refine ctV (av := []) (st0 := ([] : List Value)) (st1 := ([] : List Value)) F hw hA (k_X0_findPowerSums hz1) kl_0_100 kd_X0_findPowerSums rfl ⟨by decide, by decide⟩ 0 rfl rfl hl.1 rfl (Nat.le_of_ble_eq_true rfl) dX0_findPolynomial_1 rfl (fun H locs hw => ?_)
  refine lv_aload_n hx hb dX0_findPolynomial_4 rfl (lv_at hl 0 rfl) ?_
  refine gf_0_27 F hw dX0_findPolynomial_5 ?_
  refine lv_aload_n hx hb dX0_findPolynomial_8 rfl (lv_at hl 0 rfl) ?_
  refine gf_0_48 F hw dX0_findPolynomial_9 ?_
  refine lv_lconst (v := 1) hx hb dX0_findPolynomial_12 (by decide) ?_
  obtain ⟨g2, h⟩ := stG h
  refine as_c6 F hw g2 dX0_findPolynomial_13 (fun H locs hw => ?_)
  refine lv_iconst (v := 1) hx hb dX0_findPolynomial_14 (by decide) ?_
  refine lv_istore_n (lv' := [(1, .int 1), (0, .ref (q 0))]) hx hb dX0_findPolynomial_15 rfl hl (by decide) rfl (fun ls hl => ?_)
  exact w_X0_findPolynomial_L16 F hA  FU _ _ _ _ _ z h hE H locs ls hw (lv_sub hl [1, 0] rfl)
end
theorem dX0_settle_0 : decode cX0_settle 0 = .ok (.aload_n 0, 1) := by decide +kernel
theorem dX0_settle_1 : decode cX0_settle 1 = .ok (.iload_n 1, 1) := by decide +kernel
theorem dX0_settle_2 : decode cX0_settle 2 = .ok (.putfield 44, 3) := by decide +kernel
theorem dX0_settle_5 : decode cX0_settle 5 = .ok (.aload_n 0, 1) := by decide +kernel
theorem dX0_settle_6 : decode cX0_settle 6 = .ok (.iload_n 2, 1) := by decide +kernel
theorem dX0_settle_7 : decode cX0_settle 7 = .ok (.putfield 48, 3) := by decide +kernel
theorem dX0_settle_10 : decode cX0_settle 10 = .ok (.aload_n 0, 1) := by decide +kernel
theorem dX0_settle_11 : decode cX0_settle 11 = .ok (.iload_n 1, 1) := by decide +kernel
theorem dX0_settle_12 : decode cX0_settle 12 = .ok (.iconst 1, 1) := by decide +kernel
theorem dX0_settle_13 : decode cX0_settle 13 = .ok (.isub, 1) := by decide +kernel
theorem dX0_settle_14 : decode cX0_settle 14 = .ok (.iload_n 2, 1) := by decide +kernel
theorem dX0_settle_15 : decode cX0_settle 15 = .ok (.idiv, 1) := by decide +kernel
theorem dX0_settle_16 : decode cX0_settle 16 = .ok (.putfield 51, 3) := by decide +kernel
theorem dX0_settle_19 : decode cX0_settle 19 = .ok (.aload_n 0, 1) := by decide +kernel
theorem dX0_settle_20 : decode cX0_settle 20 = .ok (.invokevirtual 54, 3) := by decide +kernel
theorem dX0_settle_23 : decode cX0_settle 23 = .ok (.aload_n 0, 1) := by decide +kernel
theorem dX0_settle_24 : decode cX0_settle 24 = .ok (.invokevirtual 57, 3) := by decide +kernel
theorem dX0_settle_27 : decode cX0_settle 27 = .ok (.aload_n 0, 1) := by decide +kernel
theorem dX0_settle_28 : decode cX0_settle 28 = .ok (.aload_n 0, 1) := by decide +kernel
theorem dX0_settle_29 : decode cX0_settle 29 = .ok (.getfield 9, 3) := by decide +kernel
theorem dX0_settle_32 : decode cX0_settle 32 = .ok (.iconst 0, 1) := by decide +kernel
theorem dX0_settle_33 : decode cX0_settle 33 = .ok (.iaload, 1) := by decide +kernel
theorem dX0_settle_34 : decode cX0_settle 34 = .ok (.invokevirtual 60, 3) := by decide +kernel
theorem dX0_settle_37 : decode cX0_settle 37 = .ok (.aload_n 0, 1) := by decide +kernel
theorem dX0_settle_38 : decode cX0_settle 38 = .ok (.invokevirtual 64, 3) := by decide +kernel
theorem dX0_settle_41 : decode cX0_settle 41 = .ok (.return_, 1) := by decide +kernel
section
variable {p : Program} {l : Launch} {e : Env} {s : State} {m : MethodId} {args : Array Value} {below : List Frame} {meth : Method} {c : Code} {Q : State → Prop} {G : GG} {A : Nat → Prop} {q : Nat → Nat} {fr : va_W}
def f_X0_settle (zp : Int32) (ze : Int32) (zf : Int32) (zg : Int32) (zn : Int32) (aG : Nat → Int32) (aW : Nat → Int32) (aR : Nat → Int32) (aN : Nat → Int32) (aF : Nat → Int32) (lC : Nat → Int64) (lS : Nat → Int64) (lP : Nat → Int64) (lX : Nat → Int64) (v1 : Int32) (v2 : Int32) : Option (Int32 × Int32 × Int32 × Int32 × Int32 × (Nat → Int32) × (Nat → Int32) × (Nat → Int32) × (Nat → Int32) × (Nat → Int32) × (Nat → Int64) × (Nat → Int64) × (Nat → Int64) × (Nat → Int64)) :=
  if v2 = 0 then none else
  (f_X0_findGenerators v1 zn aG).bind fun z2 =>
  (f_X0_findRaised v1 v2 aR).bind fun z3 =>
  if inb 0 61 then
  (f_X0_takeGenerator v1 v2 ((v1 - 1) / v2) zg aW aN aF (z2.2 (0 : Int32).toNatClampNeg)).bind fun z5 =>
  (f_X0_findPolynomial v2 z5.2.2.2 lC lS lP lX).bind fun z6 =>
  some (v1, v2, ((v1 - 1) / v2), z5.1, z2.1, z2.2, z5.2.1, z3, z5.2.2.1, z5.2.2.2, z6.1, z6.2.1, z6.2.2.1, z6.2.2.2)
  else none
set_option maxHeartbeats 4000000 in
set_option maxRecDepth 100000 in
theorem k_X0_settle {l : Launch} {G : GG} {q : Nat → Nat} {fr : va_W}  {zp : Int32} {ze : Int32} {zf : Int32} {zg : Int32} {zn : Int32} {aG : Nat → Int32} {aW : Nat → Int32} {aR : Nat → Int32} {aN : Nat → Int32} {aF : Nat → Int32} {lC : Nat → Int64} {lS : Nat → Int64} {lP : Nat → Int64} {lX : Nat → Int64} {v1 : Int32} {v2 : Int32} {z : Int32 × Int32 × Int32 × Int32 × Int32 × (Nat → Int32) × (Nat → Int32) × (Nat → Int32) × (Nat → Int32) × (Nat → Int32) × (Nat → Int64) × (Nat → Int64) × (Nat → Int64) × (Nat → Int64)}  (h : f_X0_settle zp ze zf zg zn aG aW aR aN aF lC lS lP lX v1 v2 = some z) : Ct l G yX0_settle cX0_settle 3 none 4 94 [.ref (q 0), .int v1, .int v2] (kW G q zp ze zf zg zn aG aW aR aN aF lC lS lP lX ++ fr) (none) (kW G q z.1 z.2.1 z.2.2.1 z.2.2.2.1 z.2.2.2.2.1 z.2.2.2.2.2.1 z.2.2.2.2.2.2.1 z.2.2.2.2.2.2.2.1 z.2.2.2.2.2.2.2.2.1 z.2.2.2.2.2.2.2.2.2.1 z.2.2.2.2.2.2.2.2.2.2.1 z.2.2.2.2.2.2.2.2.2.2.2.1 z.2.2.2.2.2.2.2.2.2.2.2.2.1 z.2.2.2.2.2.2.2.2.2.2.2.2.2 ++ fr) := by
  refine Ct.of (by decide +kernel) (Nat.le_of_ble_eq_true rfl) trivial ?_
  intro p e s m args below meth c Q A ls F hw hA hE hl
  have hx := F.x
  have hb := F.b
  unfold f_X0_settle at h
  obtain ⟨H, hH⟩ : ∃ H, H = s.heap := ⟨_, rfl⟩
  obtain ⟨locs, hlo⟩ : ∃ locs : List Loc, locs = [] := ⟨_, rfl⟩
  rw [← hH, ← hlo] at hw ⊢
  have hl : lv_has ls 3 [(0, .ref (q 0)), (1, .int v1), (2, .int v2)] := hl
  refine lv_aload_n hx hb dX0_settle_0 rfl (lv_at hl 0 rfl) ?_
  refine lv_iload_n hx hb dX0_settle_1 rfl (lv_at hl 1 rfl) ?_
  refine pf_0_44 F hw dX0_settle_2 (fun H locs hw => ?_)
  refine lv_aload_n hx hb dX0_settle_5 rfl (lv_at hl 0 rfl) ?_
  refine lv_iload_n hx hb dX0_settle_6 rfl (lv_at hl 2 rfl) ?_
  refine pf_0_48 F hw dX0_settle_7 (fun H locs hw => ?_)
  refine lv_aload_n hx hb dX0_settle_10 rfl (lv_at hl 0 rfl) ?_
  refine lv_iload_n hx hb dX0_settle_11 rfl (lv_at hl 1 rfl) ?_
  refine lv_iconst (v := 1) hx hb dX0_settle_12 (by decide) ?_
  refine lv_isub hx hb dX0_settle_13 ?_
  refine lv_iload_n hx hb dX0_settle_14 rfl (lv_at hl 2 rfl) ?_
  obtain ⟨g1, h⟩ := stD h
  refine lv_idiv hx hb dX0_settle_15 g1 ?_
  refine pf_0_51 F hw dX0_settle_16 (fun H locs hw => ?_)
  refine lv_aload_n hx hb dX0_settle_19 rfl (lv_at hl 0 rfl) ?_
  obtain ⟨z2, hz2, h⟩ := stB h
  refine ctV (av := []) (st0 := ([] : List Value)) (st1 := ([] : List Value)) F hw hA (k_X0_findGenerators hz2) kl_0_54 kd_X0_findGenerators rfl ⟨by decide, by decide⟩ 0 rfl rfl hl.1 rfl (Nat.le_of_ble_eq_true rfl) dX0_settle_20 rfl (fun H locs hw => ?_)
  refine lv_aload_n hx hb dX0_settle_23 rfl (lv_at hl 0 rfl) ?_
  obtain ⟨z3, hz3, h⟩ := stB h
  refine ctV (av := []) (st0 := ([] : List Value)) (st1 := ([] : List Value)) F hw hA (k_X0_findRaised hz3) kl_0_57 kd_X0_findRaised rfl ⟨by decide, by decide⟩ 0 rfl rfl hl.1 rfl (Nat.le_of_ble_eq_true rfl) dX0_settle_24 rfl (fun H locs hw => ?_)
  refine lv_aload_n hx hb dX0_settle_27 rfl (lv_at hl 0 rfl) ?_
  refine lv_aload_n hx hb dX0_settle_28 rfl (lv_at hl 0 rfl) ?_
  refine gf_0_9 F hw dX0_settle_29 ?_
  refine lv_iconst (v := 0) hx hb dX0_settle_32 (by decide) ?_
  obtain ⟨g4, h⟩ := stG h
  refine al_c1 F hw g4 dX0_settle_33 ?_
  obtain ⟨z5, hz5, h⟩ := stB h
  refine ctV (av := [.int (z2.2 (0 : Int32).toNatClampNeg)]) (st0 := ([] : List Value)) (st1 := ([] : List Value)) F hw hA (k_X0_takeGenerator hz5) kl_0_60 kd_X0_takeGenerator rfl ⟨by decide, by decide⟩ 0 rfl rfl hl.1 rfl (Nat.le_of_ble_eq_true rfl) dX0_settle_34 rfl (fun H locs hw => ?_)
  refine lv_aload_n hx hb dX0_settle_37 rfl (lv_at hl 0 rfl) ?_
  obtain ⟨z6, hz6, h⟩ := stB h
  refine ctV (av := []) (st0 := ([] : List Value)) (st1 := ([] : List Value)) F hw hA (k_X0_findPolynomial hz6) kl_0_64 kd_X0_findPolynomial rfl ⟨by decide, by decide⟩ 0 rfl rfl hl.1 rfl (Nat.le_of_ble_eq_true rfl) dX0_settle_38 rfl (fun H locs hw => ?_)
  obtain rfl := Option.some.inj h
  exact hE H locs _ ls hw dX0_settle_41
end
