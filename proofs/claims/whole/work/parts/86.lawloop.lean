/-! THE LAW's LOOP, printed by wip/whole/genlaw.py -/
section LV2
variable {p : Program} {l : Launch} {e : Env} {s : State} {m : MethodId} {below : List Frame} {meth : Method} {c : Code} {b L : Nat} {xs : Nat → Int32} {G : GG} {A : Nat → Prop} {q q2 : Nat → Nat}
set_option maxHeartbeats 4000000 in
set_option maxRecDepth 100000 in
theorem law_head (F : Fx p s m #[Value.ref b] meth c code 4 R_law ret) (hX : va_X b L xs s s.heap) (hbl : b < s.heap.size) (hbA : ¬ A b) (hA : ∀ x, s.heap.size ≤ x → A x) (hA2 : ∀ x, A x → s.heap.size ≤ x) (hL : L ≤ 2560) : ∀ (fu n : Nat), n ≤ L → L - n < fu → ∀ (zp : Int32) (ze : Int32) (zf : Int32) (zg : Int32) (zn : Int32) (aG : Nat → Int32) (aW : Nat → Int32) (aR : Nat → Int32) (aN : Nat → Int32) (aF : Nat → Int32) (lC : Nat → Int64) (lS : Nat → Int64) (lP : Nat → Int64) (lX : Nat → Int64) (ztc : Int32) (aTs : Nat → Int32) (aTn : Nat → Int32) (zoc : Int32) (aOs : Nat → Int32) (aOn : Nat → Int32) (aTp : Nat → Int32) (zln : Int32) (zpl : Int32) (zfa : Int32) (aSz : Nat → Int32) (zit : Int32) (zip : Int32) (zic : Int32) (zig : Int32) (M : Nat → Nat → Int64) (yp : Int32) (ye : Int32) (yg : Int32) (bPo : Nat → Int32) (bTb : Nat → Int32) (wSh : Nat → Int64) (wTe : Nat → Int64) (wNx : Nat → Int64) (bOs : Nat → Int32) (bOn : Nat → Int32) (yop : Int32) (bSo : Nat → Int32) (bNu : Nat → Int32) (ytr : Int32) (yiw : Int32) (wMa : Nat → Int64) (wPr : Nat → Int64) (bTp : Nat → Int32) (yln : Int32) (ypl : Int32) (yfa : Int32) (wLi : Nat → Int64) (bSi : Nat → Int32) (yhp : Int32) (yhe : Int32) (yhg : Int32) (wHs : Nat → Int64) (yhi : Int32), Rel zp ze zf zg zn aG aW aR aN aF lC lS lP lX ztc aTs aTn zoc aOs aOn aTp zln zpl zfa aSz zit zip zic zig M yp ye yg bPo bTb wSh wTe wNx bOs bOn yop bSo bNu ytr yiw wMa wPr bTp yln ypl yfa wLi bSi yhp yhe yhg wHs yhi → ∀ (H : Heap) (locs : List Loc) (ls : Array Slot), Wd G s A (kW G q zp ze zf zg zn aG aW aR aN aF lC lS lP lX ++ (oW G q ztc aTs aTn zoc aOs aOn aTp zln zpl zfa aSz zit zip zic zig M ++ (mW G q2 yp ye yg bPo bTb wSh wTe wNx bOs bOn yop bSo bNu ytr yiw wMa wPr bTp yln ypl yfa wLi bSi yhp yhe yhg wHs yhi ++ []))) H locs → lv_has ls 4 [(0, .ref b), (1, .ref (q 21)), (2, .ref (q2 0)), (3, .int (nI n))] → lwW p l e s m below meth c b H locs (F0 m 18 ls []) := by
  have hx := F.x
  have hb := F.b
  intro fu
  induction fu with
  | zero => intro n h1 h2; exact absurd h2 (Nat.not_lt_zero _)
  | succ fu ih =>
    intro n h1 h2 zp ze zf zg zn aG aW aR aN aF lC lS lP lX ztc aTs aTn zoc aOs aOn aTp zln zpl zfa aSz zit zip zic zig M yp ye yg bPo bTb wSh wTe wNx bOs bOn yop bSo bNu ytr yiw wMa wPr bTp yln ypl yfa wLi bSi yhp yhe yhg wHs yhi hR H locs ls hw hl
    refine lv_iload_n hx hb dL_law_18 rfl (lv_at hl 3 rfl) ?_
    refine lv_aload_n hx hb dL_law_19 rfl (lv_at hl 0 rfl) ?_
    refine va_slen hx hb hX hbl hbA hw.2.2.2 dL_law_20 ?_
    refine lv_iconst (v := 5) hx hb dL_law_21 (by decide) ?_
    refine lv_isub hx hb dL_law_22 ?_
    refine lv_icmp_gt (tgt := 1499) hx hb dL_law_23 (by decide) (fun c1 => ?_) (fun c1 => ?_)
    · refine lv_iconst (v := 1) hx hb dL_law_1499 (by decide) ?_
      refine va_forget (fun x hx2 => hA2 _ (hw.2.2.2.2.2 x hx2)) ?_
      exact lw_ret hx hb F.rt F.lk dL_law_1500
    · have hn : n + 5 ≤ L := by
        rcases Nat.lt_or_ge L (n + 5) with z | z
        · refine absurd ?_ c1
          rw [Int32.lt_iff_toInt_lt, nI_toInt (by omega)]
          rw [show ((Int32.ofNat L : Int32) - 5).toInt = (L : Int) - 5 from pk_sub_toInt (a := L) (b := 5) (by omega) (by omega)]
          omega
        · exact z
      have hi0 : vp_in (nI n) L := vp_in_nI (by omega) (by omega)
      refine lv_aload_n hx hb dL_law_26 rfl (lv_at hl 0 rfl) ?_
      refine lv_iload_n hx hb dL_law_27 rfl (lv_at hl 3 rfl) ?_
      refine va_sld hx hb hX hbl hbA hw.2.2.2 hi0 dL_law_28 ?_
      refine lv_bipush (v := 63) hx hb dL_law_29 (by decide) ?_
      refine lv_iand hx hb dL_law_31 ?_
      have hN : LwN p l e s m below meth c b n G A q q2 := by
        intro zp ze zf zg zn aG aW aR aN aF lC lS lP lX ztc aTs aTn zoc aOs aOn aTp zln zpl zfa aSz zit zip zic zig M yp ye yg bPo bTb wSh wTe wNx bOs bOn yop bSo bNu ytr yiw wMa wPr bTp yln ypl yfa wLi bSi yhp yhe yhg wHs yhi hR H locs ls hw hl
        refine lv_iinc (v := nI (n + 5)) (lv' := [(3, .int (nI (n + 5))), (0, .ref b), (1, .ref (q 21)), (2, .ref (q2 0))]) hx hb dL_law_1493 hl (k := 3) rfl (nI_add n 5) (by decide) rfl (fun ls hl => ?_)
        refine lv_goto (tgt := 18) hx hb dL_law_1496 (by decide) ?_
        exact ih (n + 5) hn (by omega) _ _ _ _ _ _ _ _ _ _ _ _ _ _ _ _ _ _ _ _ _ _ _ _ _ _ _ _ _ _ _ _ _ _ _ _ _ _ _ _ _ _ _ _ _ _ _ _ _ _ _ _ _ _ _ _ _ _ hR H locs ls hw (lv_sub hl [1, 2, 3, 0] rfl)
      obtain ⟨j, hj, ej⟩ := pk_andE (xs (nI n).toNatClampNeg) (m := 63) 6 (by decide)
      rw [ej]
      clear ej
      rcases Nat.lt_or_ge j 40 with hj2 | hj2
      · revert hj2
        revert j
        suffices hh : ∀ j, j < 40 → lwW p l e s m below meth c b H locs (F0 m 32 ls [.int (nI j)]) from fun j _ h => hh j h
        have k0 : ∀ j, j < 0 → lwW p l e s m below meth c b H locs (F0 m 32 ls [.int (nI j)]) := fun j h => absurd h (Nat.not_lt_zero _)
        have k1 : ∀ j, j < 1 → lwW p l e s m below meth c b H locs (F0 m 32 ls [.int (nI j)]) := lt_s k0 (lv_tableIn (off := 176) (tgt := 208) hx hb dL_law_32 (by decide) (by decide) rfl (by decide) (law_c0 F hX hbl hbA hA hn hL hR hN hw hl))
        have k2 : ∀ j, j < 2 → lwW p l e s m below meth c b H locs (F0 m 32 ls [.int (nI j)]) := lt_s k1 (lv_tableIn (off := 209) (tgt := 241) hx hb dL_law_32 (by decide) (by decide) rfl (by decide) (law_c1 F hX hbl hbA hA hn hL hR hN hw hl))
        have k3 : ∀ j, j < 3 → lwW p l e s m below meth c b H locs (F0 m 32 ls [.int (nI j)]) := lt_s k2 (lv_tableIn (off := 232) (tgt := 264) hx hb dL_law_32 (by decide) (by decide) rfl (by decide) (law_c2 F hX hbl hbA hA hn hL hR hN hw hl))
        have k4 : ∀ j, j < 4 → lwW p l e s m below meth c b H locs (F0 m 32 ls [.int (nI j)]) := lt_s k3 (lv_tableIn (off := 255) (tgt := 287) hx hb dL_law_32 (by decide) (by decide) rfl (by decide) (law_c3 F hX hbl hbA hA hn hL hR hN hw hl))
        have k5 : ∀ j, j < 5 → lwW p l e s m below meth c b H locs (F0 m 32 ls [.int (nI j)]) := lt_s k4 (lv_tableIn (off := 278) (tgt := 310) hx hb dL_law_32 (by decide) (by decide) rfl (by decide) (law_c4 F hX hbl hbA hA hn hL hR hN hw hl))
        have k6 : ∀ j, j < 6 → lwW p l e s m below meth c b H locs (F0 m 32 ls [.int (nI j)]) := lt_s k5 (lv_tableIn (off := 301) (tgt := 333) hx hb dL_law_32 (by decide) (by decide) rfl (by decide) (law_c5 F hX hbl hbA hA hn hL hR hN hw hl))
        have k7 : ∀ j, j < 7 → lwW p l e s m below meth c b H locs (F0 m 32 ls [.int (nI j)]) := lt_s k6 (lv_tableIn (off := 324) (tgt := 356) hx hb dL_law_32 (by decide) (by decide) rfl (by decide) (law_c6 F hX hbl hbA hA hn hL hR hN hw hl))
        have k8 : ∀ j, j < 8 → lwW p l e s m below meth c b H locs (F0 m 32 ls [.int (nI j)]) := lt_s k7 (lv_tableIn (off := 357) (tgt := 389) hx hb dL_law_32 (by decide) (by decide) rfl (by decide) (law_c7 F hX hbl hbA hA hn hL hR hN hw hl))
        have k9 : ∀ j, j < 9 → lwW p l e s m below meth c b H locs (F0 m 32 ls [.int (nI j)]) := lt_s k8 (lv_tableIn (off := 390) (tgt := 422) hx hb dL_law_32 (by decide) (by decide) rfl (by decide) (law_c8 F hX hbl hbA hA hn hL hR hN hw hl))
        have k10 : ∀ j, j < 10 → lwW p l e s m below meth c b H locs (F0 m 32 ls [.int (nI j)]) := lt_s k9 (lv_tableIn (off := 433) (tgt := 465) hx hb dL_law_32 (by decide) (by decide) rfl (by decide) (law_c9 F hX hbl hbA hA hn hL hR hN hw hl))
        have k11 : ∀ j, j < 11 → lwW p l e s m below meth c b H locs (F0 m 32 ls [.int (nI j)]) := lt_s k10 (lv_tableIn (off := 476) (tgt := 508) hx hb dL_law_32 (by decide) (by decide) rfl (by decide) (law_c10 F hX hbl hbA hA hn hL hR hN hw hl))
        have k12 : ∀ j, j < 12 → lwW p l e s m below meth c b H locs (F0 m 32 ls [.int (nI j)]) := lt_s k11 (lv_tableIn (off := 499) (tgt := 531) hx hb dL_law_32 (by decide) (by decide) rfl (by decide) (law_c11 F hX hbl hbA hA hn hL hR hN hw hl))
        have k13 : ∀ j, j < 13 → lwW p l e s m below meth c b H locs (F0 m 32 ls [.int (nI j)]) := lt_s k12 (lv_tableIn (off := 532) (tgt := 564) hx hb dL_law_32 (by decide) (by decide) rfl (by decide) (law_c12 F hX hbl hbA hA hn hL hR hN hw hl))
        have k14 : ∀ j, j < 14 → lwW p l e s m below meth c b H locs (F0 m 32 ls [.int (nI j)]) := lt_s k13 (lv_tableIn (off := 575) (tgt := 607) hx hb dL_law_32 (by decide) (by decide) rfl (by decide) (law_c13 F hX hbl hbA hA hn hL hR hN hw hl))
        have k15 : ∀ j, j < 15 → lwW p l e s m below meth c b H locs (F0 m 32 ls [.int (nI j)]) := lt_s k14 (lv_tableIn (off := 599) (tgt := 631) hx hb dL_law_32 (by decide) (by decide) rfl (by decide) (law_c14 F hX hbl hbA hA hn hL hR hN hw hl))
        have k16 : ∀ j, j < 16 → lwW p l e s m below meth c b H locs (F0 m 32 ls [.int (nI j)]) := lt_s k15 (lv_tableIn (off := 622) (tgt := 654) hx hb dL_law_32 (by decide) (by decide) rfl (by decide) (law_c15 F hX hbl hbA hA hn hL hR hN hw hl))
        have k17 : ∀ j, j < 17 → lwW p l e s m below meth c b H locs (F0 m 32 ls [.int (nI j)]) := lt_s k16 (lv_tableIn (off := 695) (tgt := 727) hx hb dL_law_32 (by decide) (by decide) rfl (by decide) (law_c16 F hX hbl hbA hA hn hL hR hN hw hl))
        have k18 : ∀ j, j < 18 → lwW p l e s m below meth c b H locs (F0 m 32 ls [.int (nI j)]) := lt_s k17 (lv_tableIn (off := 729) (tgt := 761) hx hb dL_law_32 (by decide) (by decide) rfl (by decide) (law_c17 F hX hbl hbA hA hn hL hR hN hw hl))
        have k19 : ∀ j, j < 19 → lwW p l e s m below meth c b H locs (F0 m 32 ls [.int (nI j)]) := lt_s k18 (lv_tableIn (off := 762) (tgt := 794) hx hb dL_law_32 (by decide) (by decide) rfl (by decide) (law_c18 F hX hbl hbA hA hn hL hR hN hw hl))
        have k20 : ∀ j, j < 20 → lwW p l e s m below meth c b H locs (F0 m 32 ls [.int (nI j)]) := lt_s k19 (lv_tableIn (off := 795) (tgt := 827) hx hb dL_law_32 (by decide) (by decide) rfl (by decide) (law_c19 F hX hbl hbA hA hn hL hR hN hw hl))
        have k21 : ∀ j, j < 21 → lwW p l e s m below meth c b H locs (F0 m 32 ls [.int (nI j)]) := lt_s k20 (lv_tableIn (off := 838) (tgt := 870) hx hb dL_law_32 (by decide) (by decide) rfl (by decide) (law_c20 F hX hbl hbA hA hn hL hR hN hw hl))
        have k22 : ∀ j, j < 22 → lwW p l e s m below meth c b H locs (F0 m 32 ls [.int (nI j)]) := lt_s k21 (lv_tableIn (off := 881) (tgt := 913) hx hb dL_law_32 (by decide) (by decide) rfl (by decide) (law_c21 F hX hbl hbA hA hn hL hR hN hw hl))
        have k23 : ∀ j, j < 23 → lwW p l e s m below meth c b H locs (F0 m 32 ls [.int (nI j)]) := lt_s k22 (lv_tableIn (off := 924) (tgt := 956) hx hb dL_law_32 (by decide) (by decide) rfl (by decide) (law_c22 F hX hbl hbA hA hn hL hR hN hw hl))
        have k24 : ∀ j, j < 24 → lwW p l e s m below meth c b H locs (F0 m 32 ls [.int (nI j)]) := lt_s k23 (lv_tableIn (off := 967) (tgt := 999) hx hb dL_law_32 (by decide) (by decide) rfl (by decide) (law_c23 F hX hbl hbA hA hn hL hR hN hw hl))
        have k25 : ∀ j, j < 25 → lwW p l e s m below meth c b H locs (F0 m 32 ls [.int (nI j)]) := lt_s k24 (lv_tableIn (off := 1010) (tgt := 1042) hx hb dL_law_32 (by decide) (by decide) rfl (by decide) (law_c24 F hX hbl hbA hA hn hL hR hN hw hl))
        have k26 : ∀ j, j < 26 → lwW p l e s m below meth c b H locs (F0 m 32 ls [.int (nI j)]) := lt_s k25 (lv_tableIn (off := 1034) (tgt := 1066) hx hb dL_law_32 (by decide) (by decide) rfl (by decide) (law_c25 F hX hbl hbA hA hn hL hR hN hw hl))
        have k27 : ∀ j, j < 27 → lwW p l e s m below meth c b H locs (F0 m 32 ls [.int (nI j)]) := lt_s k26 (lv_tableIn (off := 1058) (tgt := 1090) hx hb dL_law_32 (by decide) (by decide) rfl (by decide) (law_c26 F hX hbl hbA hA hn hL hR hN hw hl))
        have k28 : ∀ j, j < 28 → lwW p l e s m below meth c b H locs (F0 m 32 ls [.int (nI j)]) := lt_s k27 (lv_tableIn (off := 1081) (tgt := 1113) hx hb dL_law_32 (by decide) (by decide) rfl (by decide) (law_c27 F hX hbl hbA hA hn hL hR hN hw hl))
        have k29 : ∀ j, j < 29 → lwW p l e s m below meth c b H locs (F0 m 32 ls [.int (nI j)]) := lt_s k28 (lv_tableIn (off := 1114) (tgt := 1146) hx hb dL_law_32 (by decide) (by decide) rfl (by decide) (law_c28 F hX hbl hbA hA hn hL hR hN hw hl))
        have k30 : ∀ j, j < 30 → lwW p l e s m below meth c b H locs (F0 m 32 ls [.int (nI j)]) := lt_s k29 (lv_tableIn (off := 1147) (tgt := 1179) hx hb dL_law_32 (by decide) (by decide) rfl (by decide) (law_c29 F hX hbl hbA hA hn hL hR hN hw hl))
        have k31 : ∀ j, j < 31 → lwW p l e s m below meth c b H locs (F0 m 32 ls [.int (nI j)]) := lt_s k30 (lv_tableIn (off := 1170) (tgt := 1202) hx hb dL_law_32 (by decide) (by decide) rfl (by decide) (law_c30 F hX hbl hbA hA hn hL hR hN hw hl))
        have k32 : ∀ j, j < 32 → lwW p l e s m below meth c b H locs (F0 m 32 ls [.int (nI j)]) := lt_s k31 (lv_tableIn (off := 1183) (tgt := 1215) hx hb dL_law_32 (by decide) (by decide) rfl (by decide) (law_c31 F hX hbl hbA hA hn hL hR hN hw hl))
        have k33 : ∀ j, j < 33 → lwW p l e s m below meth c b H locs (F0 m 32 ls [.int (nI j)]) := lt_s k32 (lv_tableIn (off := 1206) (tgt := 1238) hx hb dL_law_32 (by decide) (by decide) rfl (by decide) (law_c32 F hX hbl hbA hA hn hL hR hN hw hl))
        have k34 : ∀ j, j < 34 → lwW p l e s m below meth c b H locs (F0 m 32 ls [.int (nI j)]) := lt_s k33 (lv_tableIn (off := 1239) (tgt := 1271) hx hb dL_law_32 (by decide) (by decide) rfl (by decide) (law_c33 F hX hbl hbA hA hn hL hR hN hw hl))
        have k35 : ∀ j, j < 35 → lwW p l e s m below meth c b H locs (F0 m 32 ls [.int (nI j)]) := lt_s k34 (lv_tableIn (off := 1312) (tgt := 1344) hx hb dL_law_32 (by decide) (by decide) rfl (by decide) (law_c34 F hX hbl hbA hA hn hL hR hN hw hl))
        have k36 : ∀ j, j < 36 → lwW p l e s m below meth c b H locs (F0 m 32 ls [.int (nI j)]) := lt_s k35 (lv_tableIn (off := 1346) (tgt := 1378) hx hb dL_law_32 (by decide) (by decide) rfl (by decide) (law_c35 F hX hbl hbA hA hn hL hR hN hw hl))
        have k37 : ∀ j, j < 37 → lwW p l e s m below meth c b H locs (F0 m 32 ls [.int (nI j)]) := lt_s k36 (lv_tableIn (off := 1379) (tgt := 1411) hx hb dL_law_32 (by decide) (by decide) rfl (by decide) (law_c36 F hX hbl hbA hA hn hL hR hN hw hl))
        have k38 : ∀ j, j < 38 → lwW p l e s m below meth c b H locs (F0 m 32 ls [.int (nI j)]) := lt_s k37 (lv_tableIn (off := 1412) (tgt := 1444) hx hb dL_law_32 (by decide) (by decide) rfl (by decide) (law_c37 F hX hbl hbA hA hn hL hR hN hw hl))
        have k39 : ∀ j, j < 39 → lwW p l e s m below meth c b H locs (F0 m 32 ls [.int (nI j)]) := lt_s k38 (lv_tableIn (off := 1425) (tgt := 1457) hx hb dL_law_32 (by decide) (by decide) rfl (by decide) (law_c38 F hX hbl hbA hA hn hL hR hN hw hl))
        have k40 : ∀ j, j < 40 → lwW p l e s m below meth c b H locs (F0 m 32 ls [.int (nI j)]) := lt_s k39 (lv_tableIn (off := 1438) (tgt := 1470) hx hb dL_law_32 (by decide) (by decide) rfl (by decide) (law_c39 F hX hbl hbA hA hn hL hR hN hw hl))
        exact k40
      · refine lv_tableOut (tgt := 1493) hx hb dL_law_32 (Or.inr (by rw [nI_toInt (by omega)]; omega)) (by decide) ?_
        exact hN _ _ _ _ _ _ _ _ _ _ _ _ _ _ _ _ _ _ _ _ _ _ _ _ _ _ _ _ _ _ _ _ _ _ _ _ _ _ _ _ _ _ _ _ _ _ _ _ _ _ _ _ _ _ _ _ _ _ hR H locs ls hw hl
end LV2
