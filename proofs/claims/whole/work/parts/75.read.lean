/-! READ -/
theorem relP0 (aTp bTp : Nat → Int32) : RelP aTp 0 bTp 0 := ⟨0, by decide, rfl, rfl, fun i hi => absurd hi (Nat.not_lt_zero i)⟩
set_option maxRecDepth 4000 in
theorem op_read {zp : Int32} {ze : Int32} {zf : Int32} {zg : Int32} {zn : Int32} {aG : Nat → Int32} {aW : Nat → Int32} {aR : Nat → Int32} {aN : Nat → Int32} {aF : Nat → Int32} {lC : Nat → Int64} {lS : Nat → Int64} {lP : Nat → Int64} {lX : Nat → Int64} {ztc : Int32} {aTs : Nat → Int32} {aTn : Nat → Int32} {zoc : Int32} {aOs : Nat → Int32} {aOn : Nat → Int32} {aTp : Nat → Int32} {zln : Int32} {zpl : Int32} {zfa : Int32} {aSz : Nat → Int32} {zit : Int32} {zip : Int32} {zic : Int32} {zig : Int32} {M : Nat → Nat → Int64} {yp : Int32} {ye : Int32} {yg : Int32} {bPo : Nat → Int32} {bTb : Nat → Int32} {wSh : Nat → Int64} {wTe : Nat → Int64} {wNx : Nat → Int64} {bOs : Nat → Int32} {bOn : Nat → Int32} {yop : Int32} {bSo : Nat → Int32} {bNu : Nat → Int32} {ytr : Int32} {yiw : Int32} {wMa : Nat → Int64} {wPr : Nat → Int64} {bTp : Nat → Int32} {yln : Int32} {ypl : Int32} {yfa : Int32} {wLi : Nat → Int64} {bSi : Nat → Int32} {yhp : Int32} {yhe : Int32} {yhg : Int32} {wHs : Nat → Int64} {yhi : Int32} (h : Rel zp ze zf zg zn aG aW aR aN aF lC lS lP lX ztc aTs aTn zoc aOs aOn aTp zln zpl zfa aSz zit zip zic zig M yp ye yg bPo bTb wSh wTe wNx bOs bOn yop bSo bNu ytr yiw wMa wPr bTp yln ypl yfa wLi bSi yhp yhe yhg wHs yhi) (v1 : Int32) : ∃ z1 z2, f_X4_read ze aF ztc aTs aTn zoc aOs aOn aTp zln zpl zfa M v1 = some z1 ∧ f_X5_read yp ye bPo bTb wSh bOs bOn yop bSo bNu ytr yiw wMa wPr bTp yln ypl yfa v1 = some z2 ∧ z1.1 = z2.1 ∧ Rel zp ze zf zg zn aG aW aR aN aF lC lS lP lX z1.2.1 z1.2.2.1 z1.2.2.2.1 z1.2.2.2.2.1 z1.2.2.2.2.2.1 z1.2.2.2.2.2.2.1 aTp z1.2.2.2.2.2.2.2.1 z1.2.2.2.2.2.2.2.2.1 z1.2.2.2.2.2.2.2.2.2.1 aSz zit zip zic zig z1.2.2.2.2.2.2.2.2.2.2 yp ye yg bPo bTb z2.2.1 wTe wNx z2.2.2.1 z2.2.2.2.1 z2.2.2.2.2.1 z2.2.2.2.2.2.1 z2.2.2.2.2.2.2.1 z2.2.2.2.2.2.2.2.1 z2.2.2.2.2.2.2.2.2.1 z2.2.2.2.2.2.2.2.2.2.1 z2.2.2.2.2.2.2.2.2.2.2.1 bTp z2.2.2.2.2.2.2.2.2.2.2.2.1 z2.2.2.2.2.2.2.2.2.2.2.2.2.1 z2.2.2.2.2.2.2.2.2.2.2.2.2.2 wLi bSi yhp yhe yhg wHs yhi := by
  obtain ⟨hK, hS, hT, hP, hL, hI⟩ := h
  obtain ⟨P, E, g, hV, ⟨rfl, rfl, rfl, rfl, rfl⟩, hG, hW, hRa, hN, hF, hC, ⟨rfl, rfl, rfl⟩, hPo, hTb⟩ := hK
  have hK : RelK (nI P) (nI E) (nI ((P - 1) / E)) (nI g) (nI (gens P).length) aG aW aR aN aF lC (nI P) (nI E) (nI g) bPo bTb := ⟨P, E, g, hV, ⟨rfl, rfl, rfl, rfl, rfl⟩, hG, hW, hRa, hN, hF, hC, ⟨rfl, rfl, rfl⟩, hPo, hTb⟩
  have hb := hV.bd
  obtain ⟨rfl, hT2⟩ := hT
  have hT : RelT ztc aTs aTn 0 bSo bNu ytr := ⟨rfl, hT2⟩
  obtain ⟨n, hn, rfl, rfl, hTp⟩ := hP
  have hP : RelP aTp (nI n) bTp (nI n) := ⟨n, hn, rfl, rfl, hTp⟩
  have e0 : ¬ (1 : Int32) = 0 := by decide
  unfold f_X4_read f_X5_read
  simp only [pu_shelf4, pu_shelf5, Option.bind_some, pu_if]
  by_cases h1 : inb v1 4 = true
  · obtain ⟨s, hs, rfl⟩ := inb_ex h1 (by omega)
    simp only [if_pos h1, nI_clamp (show s < 2 ^ 31 by omega), Nat.zero_add]
    obtain ⟨zc, zr, c1, c2, c3⟩ := readSum_sim hV hF hPo hTb hn hTp 7 0 0 (by omega) (by omega) (by omega) ztc aTs aTn aOs aOn M bOs bOn bSo bNu ytr wMa wPr 0 (Nat.zero_le _) (OP.zero aOs aOn bOs bOn)
    have c1 : f_X1_readSum 7 (nI E) aF ztc aTs aTn 0 aOs aOn aTp (nI n) 0 (-1) M 0 = some zc := c1
    have c2 : f_X5_sum 7 (nI P) (nI E) bPo bTb bOs bOn 0 bSo bNu ytr 0 wMa wPr bTp (nI n) 0 (-1) 0 = some zr := c2
    have c0 : f_X5_begins_ yop yiw = some (0, 0) := rfl
    unfold f_X1_readTo
    rw [c0, Option.bind_some, c1, Option.bind_some]
    dsimp only
    rw [c2, Option.bind_some]
    rcases c3 with ⟨ztc', aTs', aTn', aOs', aOn', zpl', zfa', M', bOs', bOn', yop', bSo', bNu', ytr', wMa', wPr', ypl', rfl, rfl, d1, d2, d3⟩ | ⟨aOs', aOn', p2, M2, bOs', bOn', wM2, wP2, v, rfl, rfl, d1, d2, d3, d4, d5, d6, d7⟩
    · dsimp only
      rw [if_pos rfl, if_neg e0]
      rcases d2 with rfl | ⟨f, hf, rfl⟩
      · rw [if_pos rfl, if_pos (show (-1 : Int32) < 0 by decide), lays_no, Option.bind_some, Option.bind_some]
        exact ⟨_, _, rfl, rfl, rfl, hK, relS_low (by omega) hS (fun r hr => d3 r (by omega)), d1, relP0 _ _, relL_M (fun r hr1 hr2 => d3 r (by omega)) hL, relI_M (fun r hr1 hr2 => d3 r (by omega)) hI⟩
      · have n1 : ¬ nI f < 0 := q_nlt (b := 0) (by omega) (by omega) (Nat.zero_le _)
        rw [if_neg (m1_nI (by omega)), if_neg n1, Option.bind_some]
        exact ⟨_, _, rfl, rfl, rfl, hK, relS_low (by omega) hS (fun r hr => d3 r (by omega)), d1, relP0 _ _, relL_M (fun r hr1 hr2 => d3 r (by omega)) hL, relI_M (fun r hr1 hr2 => d3 r (by omega)) hI⟩
    · dsimp only
      have d3 : p2 ≤ n := d3
      rw [if_neg e0, if_pos rfl, letter_ok hn d3, Option.bind_some]
      by_cases hl : ltr aTp n p2 = -1
      · have hq : n ≤ p2 := ltr_m1 hTp hl
        have a6 : inb 0 6 = true := by decide
        obtain ⟨wSh', k1, k2, k3⟩ := lays_ok (by omega) hs wSh d5
        rw [if_pos hl, if_pos a6, show (0 : Int32).toNatClampNeg = 0 by decide, copyRow_ok (show s ≠ 11 + 0 by omega), Option.bind_some, Option.bind_some, if_pos (q_le (by omega) (by omega) hq), if_pos (show (-1 : Int32) < 0 by decide), k1, Option.bind_some]
        refine ⟨_, _, rfl, rfl, rfl, hK, relS_put (by omega) hS (fun h hh => ?_) (fun r hr1 hr2 => ?_) k2 k3, hT, relP0 _ _, relL_M (fun r hr1 hr2 => ?_) hL, relI_M (fun r hr1 hr2 => ?_) hI⟩
        · show va_up M2 s _ s h = _
          rw [up_s, cpr_in (by omega)]
          exact d4 h hh
        · exact (up_n _ _ hr2).trans (d6 r (Or.inl (by omega)))
        · exact (up_n _ _ (by omega)).trans (d6 r (Or.inl (by omega)))
        · exact (up_n _ _ (by omega)).trans (d6 r (Or.inl (by omega)))
      · have hq : p2 < n := ltr_in hl
        have n1 : ¬ nI p2 < 0 := q_nlt (b := 0) (by omega) (by omega) (Nat.zero_le _)
        have n2 : ¬ nI p2 = -1 := m1_nI (by omega)
        rw [if_neg hl, if_neg (q_nle (by omega) (by omega) hq), faultAt_ok (show 0 ≤ 5 by omega), faulty_ok (show 0 ≤ 5 by omega), Option.bind_some, Option.bind_some]
        dsimp only
        rw [if_pos rfl, if_neg n1, if_neg n2, Option.bind_some]
        exact ⟨_, _, rfl, rfl, rfl, hK, relS_low (by omega) hS (fun r hr => d6 r (Or.inl (by omega))), relT_told (show 0 ≤ 5 by omega) (OP.zero aOs' aOn' bOs' bOn') aTs aTn bSo bNu 7 (nI p2), relP0 _ _, relL_M (fun r hr1 hr2 => d6 r (Or.inl (by omega))) hL, relI_M (fun r hr1 hr2 => d6 r (Or.inl (by omega))) hI⟩
  · simp only [if_neg h1]
    exact ⟨_, _, rfl, rfl, rfl, hK, hS, hT, hP, hL, hI⟩

