/-! RAISE -/
set_option maxRecDepth 4000 in
theorem op_raise {zp : Int32} {ze : Int32} {zf : Int32} {zg : Int32} {zn : Int32} {aG : Nat → Int32} {aW : Nat → Int32} {aR : Nat → Int32} {aN : Nat → Int32} {aF : Nat → Int32} {lC : Nat → Int64} {lS : Nat → Int64} {lP : Nat → Int64} {lX : Nat → Int64} {ztc : Int32} {aTs : Nat → Int32} {aTn : Nat → Int32} {zoc : Int32} {aOs : Nat → Int32} {aOn : Nat → Int32} {aTp : Nat → Int32} {zln : Int32} {zpl : Int32} {zfa : Int32} {aSz : Nat → Int32} {zit : Int32} {zip : Int32} {zic : Int32} {zig : Int32} {M : Nat → Nat → Int64} {yp : Int32} {ye : Int32} {yg : Int32} {bPo : Nat → Int32} {bTb : Nat → Int32} {wSh : Nat → Int64} {wTe : Nat → Int64} {wNx : Nat → Int64} {bOs : Nat → Int32} {bOn : Nat → Int32} {yop : Int32} {bSo : Nat → Int32} {bNu : Nat → Int32} {ytr : Int32} {yiw : Int32} {wMa : Nat → Int64} {wPr : Nat → Int64} {bTp : Nat → Int32} {yln : Int32} {ypl : Int32} {yfa : Int32} {wLi : Nat → Int64} {bSi : Nat → Int32} {yhp : Int32} {yhe : Int32} {yhg : Int32} {wHs : Nat → Int64} {yhi : Int32} (h : Rel zp ze zf zg zn aG aW aR aN aF lC lS lP lX ztc aTs aTn zoc aOs aOn aTp zln zpl zfa aSz zit zip zic zig M yp ye yg bPo bTb wSh wTe wNx bOs bOn yop bSo bNu ytr yiw wMa wPr bTp yln ypl yfa wLi bSi yhp yhe yhg wHs yhi) (v1 : Int32) (v2 : Int32) (v3 : Int32) : ∃ z1 z2, f_X4_raise ze aF ztc aTs aTn zoc aOs aOn M v1 v2 v3 = some z1 ∧ f_X5_raise yp ye bPo bTb wSh bOs bOn yop bSo bNu ytr yiw wMa wPr v1 v2 v3 = some z2 ∧ z1.1 = z2.1 ∧ Rel zp ze zf zg zn aG aW aR aN aF lC lS lP lX z1.2.1 z1.2.2.1 z1.2.2.2.1 z1.2.2.2.2.1 z1.2.2.2.2.2.1 z1.2.2.2.2.2.2.1 aTp zln zpl zfa aSz zit zip zic zig z1.2.2.2.2.2.2.2 yp ye yg bPo bTb z2.2.1 wTe wNx z2.2.2.1 z2.2.2.2.1 z2.2.2.2.2.1 z2.2.2.2.2.2.1 z2.2.2.2.2.2.2.1 z2.2.2.2.2.2.2.2.1 z2.2.2.2.2.2.2.2.2.1 z2.2.2.2.2.2.2.2.2.2.1 z2.2.2.2.2.2.2.2.2.2.2 bTp yln ypl yfa wLi bSi yhp yhe yhg wHs yhi := by
  obtain ⟨hK, hS, hT, hP, hL, hI⟩ := h
  obtain ⟨P, E, g, hV, ⟨rfl, rfl, rfl, rfl, rfl⟩, hG, hW, hRa, hN, hF, hC, ⟨rfl, rfl, rfl⟩, hPo, hTb⟩ := hK
  have hK : RelK (nI P) (nI E) (nI ((P - 1) / E)) (nI g) (nI (gens P).length) aG aW aR aN aF lC (nI P) (nI E) (nI g) bPo bTb := ⟨P, E, g, hV, ⟨rfl, rfl, rfl, rfl, rfl⟩, hG, hW, hRa, hN, hF, hC, ⟨rfl, rfl, rfl⟩, hPo, hTb⟩
  have hb := hV.bd
  unfold f_X4_raise f_X5_raise
  obtain ⟨rfl, hT2⟩ := hT
  have hT : RelT ztc aTs aTn 0 bSo bNu ytr := ⟨rfl, hT2⟩
  simp only [pu_shelf4, pu_shelf5, pu_in0c v2 40 (n := 41) (by decide) (by decide), Option.bind_some, pu_if]
  by_cases h1 : inb v1 4 = true
  · by_cases h2 : inb v3 4 = true
    · obtain ⟨s, hs, rfl⟩ := inb_ex h1 (by omega)
      obtain ⟨u, hu, rfl⟩ := inb_ex h2 (by omega)
      simp only [if_pos h1, if_pos h2, nI_clamp (show s < 2 ^ 31 by omega), nI_clamp (show u < 2 ^ 31 by omega), Nat.zero_add]
      by_cases h3 : inb v2 41 = true
      · obtain ⟨n, hn, rfl⟩ := inb_ex h3 (by omega)
        have n1 : ¬ nI n < 0 := nI_pos (by omega)
        have n2 : nI n ≤ 40 := q_le (b := 40) (by omega) (by omega) (by omega)
        rw [if_pos h3, if_neg n1, if_pos n2]
        obtain ⟨w1, e1, g1, -⟩ := becomesWhole_ok (E := E) (r := 0) (by omega) (by omega) 1 wMa
        obtain ⟨w2, e2, g2, g3⟩ := takes_ok (r := 1) (wMa := w1) hb.2.2.2.1 (by omega) hs (relS_row (by omega) hS hs)
        have e1 : f_X5_becomesWhole (nI E) wMa 0 1 = some w1 := e1
        have e2 : f_X5_takes (nI E) wSh w1 1 (nI s) = some w2 := e2
        have g4 : MR E 30 (va_up M 30 (swr (-(1 : Int32).toInt64) 12 (M 30))) (fun _ => -1) := fun h hh => by
          rw [up_s, swr_in (by omega)]
          rfl
        simp only [f_X5_begins_, f_X2_multiplyOften, f_X4_setWhole, Option.bind_some, e1, e2]
        rcases lp_ra (s := s) (u := u) hV hs hu (show n ≤ 40 by omega) (nI s) hF hPo hTb ztc aTs aTn bSo bNu ytr wSh M (fun _ _ => rfl) FU 0 aOs aOn bOs bOn 0 _ w2 wPr _ (Nat.zero_le _) (by show _ < 2000; omega) g4 (g1.keep (by omega) g3 (by decide)) g2 (fun r hr hr2 => up_n _ _ hr2) with ⟨ztc', aTs', aTn', aOs2, aOn2, M2, bOs', bOn', yop', bSo', bNu', ytr', wMa2, wPr2, b1, b2, b3, b4⟩ | ⟨aOs2, aOn2, M2, wSh', bOs', bOn', yop', wMa2, wPr2, v2, b1, b2, b3, b4, b5, b6⟩
        · refine ⟨_, _, bind_of b1 _, b2, rfl, hK, relS_low (by omega) hS (fun r hr => b4 r (by omega) (by omega)), b3, hP, relL_M (fun r hr1 hr2 => b4 r (by omega) (by omega)) hL, relI_M (fun r hr1 hr2 => b4 r (by omega) (by omega)) hI⟩
        · refine ⟨_, _, bind_of b1 _, b2, rfl, hK, relS_put (by omega) hS b3 (fun r hr1 hr2 => b6 r (by omega) (by omega) hr2) b4 b5, hT, hP, relL_M (fun r hr1 hr2 => b6 r (by omega) (by omega) (by omega)) hL, relI_M (fun r hr1 hr2 => b6 r (by omega) (by omega) (by omega)) hI⟩
      · rw [if_neg h3]
        have hf := (inb_f (v := v2) (n := 41) (by omega)).mp (Bool.eq_false_iff.mpr h3)
        by_cases h4 : v2 < 0
        · rw [if_pos h4]
          exact ⟨_, _, rfl, rfl, rfl, hK, hS, hT, hP, hL, hI⟩
        · have h5 : ¬ v2 ≤ 40 := by
            rcases hf with h | h
            · exact absurd h h4
            · rw [Int32.le_iff_toInt_le] at h
              rw [Int32.le_iff_toInt_le]
              have a : (nI 41).toInt = 41 := by decide
              have b : (40 : Int32).toInt = 40 := by decide
              omega
          rw [if_neg h4, if_neg h5]
          exact ⟨_, _, rfl, rfl, rfl, hK, hS, hT, hP, hL, hI⟩
    · simp only [if_pos h1, if_neg h2]
      exact ⟨_, _, rfl, rfl, rfl, hK, hS, hT, hP, hL, hI⟩
  · simp only [if_neg h1]
    exact ⟨_, _, rfl, rfl, rfl, hK, hS, hT, hP, hL, hI⟩
theorem negated_no {ze ztc : Int32} {aTs aTn aOs aOn : Nat → Int32} {v : Int64} (h : ¬ v = -9223372036854775808) : f_X2_negated ze ztc aTs aTn 0 aOs aOn v = some (-v, ztc, aTs, aTn, 0) := by
  unfold f_X2_negated
  rw [pu_differenceFits, ovD0, decide_eq_false h]
  rfl
theorem negated_ov {ze ztc : Int32} {aTs aTn aOs aOn : Nat → Int32} : f_X2_negated ze ztc aTs aTn 0 aOs aOn (-9223372036854775808) = some (-9223372036854775808, 1, tS aTs aOs 0 4, tS aTn aOn 0 ze, 0) := by
  unfold f_X2_negated
  rw [pu_differenceFits, ovD0, decide_eq_true rfl, Option.bind_some, show (if true = true then (0 : Int32) else 1) = 0 from rfl, if_pos rfl]
  exact bind_of (show f_X3_report ztc aTs aTn 0 aOs aOn 4 ze = some (0, 1, tS aTs aOs 0 4, tS aTn aOn 0 ze, 0) from report_ok (o := 0) (by decide) ztc aTs aTn aOs aOn 4 ze) _

