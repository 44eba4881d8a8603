/-! NORM -/
theorem lp_no {P E g s : Nat} (hV : Vd P E g) (hs : s < 4) {a : Nat → Int64} {aF bPo bTb : Nat → Int32} (hF : TF P E g aF) (hW : PW P g bPo) (hT : TB P E g bTb) (ztc : Int32) (aTs aTn bSo bNu : Nat → Int32) (ytr : Int32) (hR : RelT ztc aTs aTn 0 bSo bNu ytr) (wSh : Nat → Int64) (M0 : Nat → Nat → Int64) (ha : MR E s M0 a) (ha2 : FR E s wSh a) : ∀ (fu k : Nat) (aOs aOn bOs bOn : Nat → Int32) (yop : Int32) (M : Nat → Nat → Int64) (wMa wPr v : Nat → Int64), k ≤ E → E - k < fu → MR E 30 M v → FR E 0 wMa v → (∀ r, r < 29 → M r = M0 r) →
    (∃ w ztc' aTs' aTn' aOs' aOn' M' bOs' bOn' yop' bSo' bNu' ytr' yiw' wMa' wPr', f_X2_normOf_L10 (nI E) aF s fu ztc aTs aTn 0 aOs aOn M (nI k) = some (w, ztc', aTs', aTn', 0, aOs', aOn', M') ∧ f_X5_norm_L23 (nI P) (nI E) bPo bTb wSh (nI s) fu bOs bOn yop bSo bNu ytr 0 wMa wPr (nI k) = some (w, bOs', bOn', yop', bSo', bNu', ytr', yiw', wMa', wPr') ∧ RelT ztc' aTs' aTn' 0 bSo' bNu' ytr' ∧ ∀ r, r < 29 → M' r = M0 r) := by
  have hbd := hV.bd
  intro fu
  induction fu with
  | zero => intro k _ _ _ _ _ _ _ _ _ g1 g2; exact absurd g2 (Nat.not_lt_zero _)
  | succ fu ih =>
    intro k aOs aOn bOs bOn yop M wMa wPr v g1 g2 hv hv5 hM
    rw [f_X2_normOf_L10, f_X5_norm_L23]
    rcases Nat.lt_or_ge k E with q | q
    · have n1 : ¬ nI E ≤ nI k := q_nle (by omega) (by omega) q
      rw [if_neg n1, if_neg n1, if_pos rfl, (show f_X5_opens bOs bOn 0 5 (nI k) = some (upd bOs 0 5, upd bOn 0 (nI k), 1) from opens_ok (o := 0) (by decide) bOs bOn 5 (nI k)), Option.bind_some]
      obtain ⟨b, hb2, f1, f2⟩ := fm_ok hbd.2.2.1 hbd.2.2.2.1 (nI k)
      obtain ⟨M1, e1, t1, t2⟩ := turnRow_ok (r1 := s) (r3 := 31) (M := M) (v := a) hbd.2.2.1 hbd.2.2.2.1 (by decide) (by omega) hb2 f1 (fun h hh => by rw [hM s (by omega)]; exact ha h hh)
      obtain ⟨w1, e2, t3, t4⟩ := turns_ok (r := 1) hbd.2.2.1 hbd.2.2.2.1 (by decide) hs hb2 ha2 f2 wMa
      have e2 : f_X5_turns (nI E) wSh wMa 1 (nI s) (nI k) = some w1 := e2
      rcases grow_sim (r1 := 31) hV (by decide) (nI k) hF hW hT ztc aTs aTn aOs aOn bOs bOn bSo bNu ytr wPr (fun h hh => by rw [t2 30 (by decide) (by decide)]; exact hv h hh) t1 (hv5.keep (by omega) t4 (by decide)) t3 with ⟨ztc', aTs', aTn', aOs', aOn', M', bSo', bNu', ytr', wMa', wPr', e3, e4, g3, g4⟩ | ⟨aOs', aOn', M', wMa', wPr', v', e3, e4, g3, g4, g5, g6⟩
      · obtain ⟨fu2, rfl⟩ : ∃ fu2, fu = fu2 + 1 := ⟨fu - 1, by omega⟩
        refine ⟨-9223372036854775808, ztc', aTs', aTn', aOs', aOn', M', upd bOs 0 5, upd bOn 0 (nI k), 1, bSo', bNu', ytr', 1, wMa', wPr', ?_, ?_, g3, fun r hr => (g4 r (by omega)).trans ((t2 r (by omega) (by omega)).trans (hM r hr))⟩
        · refine (bind_of e1 _).trans ?_
          exact (bind_of e3 _)
        · refine (bind_of e2 _).trans ?_
          refine (bind_of e4 _).trans ?_
          show f_X5_norm_L23 _ _ _ _ _ _ (fu2 + 1) _ _ _ _ _ _ _ _ _ _ = _
          rw [f_X5_norm_L23]
          by_cases c : nI E ≤ nI k + 1
          · rw [if_pos c]; rfl
          · rw [if_neg c]; rfl
      · obtain ⟨w, ztc', aTs', aTn', aOs2, aOn2, M2, bOs', bOn', yop', bSo', bNu', ytr', yiw', wMa2, wPr2, b1, b2, b3, b4⟩ := ih (k + 1) aOs' aOn' (upd bOs 0 5) (upd bOn 0 (nI k)) 1 M' wMa' wPr' v' (by omega) (by omega) g3 g4 (fun r hr => (g5 r (by omega) (by omega)).trans ((t2 r (by omega) (by omega)).trans (hM r hr)))
        rw [← q_s] at b1 b2
        refine ⟨w, ztc', aTs', aTn', aOs2, aOn2, M2, bOs', bOn', yop', bSo', bNu', ytr', yiw', wMa2, wPr2, ?_, ?_, b3, b4⟩
        · refine (bind_of e1 _).trans ?_
          exact (bind_of e3 _).trans b1
        · refine (bind_of e2 _).trans ?_
          exact (bind_of e4 _).trans b2
    · have n1 : nI E ≤ nI k := q_le (by omega) (by omega) q
      have a1 : inb 0 (rl 30) = true := by decide
      have a2 : inb 0 480 = true := by decide
      have z1 : M 30 (0 : Int32).toNatClampNeg = v 0 := hv 0 (by omega)
      have z2 : wMa (0 : Int32).toNatClampNeg = v 0 := hv5 0 (by omega)
      have e0 : ¬ (1 : Int32) = 0 := by decide
      simp only [if_pos n1, if_pos a1, if_pos a2, z1, z2, ↓reduceIte, pu_cmp_eq]
      by_cases c : v 0 = -9223372036854775808
      · rw [c, if_pos rfl]
        refine ⟨-9223372036854775808, 1, tS aTs aOs 0 4, tS aTn aOn 0 (nI E), aOs, aOn, M, bOs, bOn, 0, tS bSo bOs 0 4, tS bNu bOn 0 (nI E), 1, 1, wMa, wPr, bind_of negated_ov _, ?_, relT_told (o := 0) (by decide) (OP.zero aOs aOn bOs bOn) aTs aTn bSo bNu 4 (nI E), hM⟩
        exact bind_of (show f_X5_wrong bOs bOn 0 bSo bNu ytr 0 4 (nI E) = some (tS bSo bOs 0 4, tS bNu bOn 0 (nI E), 1, 1) from wrong_ok (o := 0) (by decide) bOs bOn bSo bNu ytr 0 4 (nI E)) _
      · rw [if_neg c]
        exact ⟨-(v 0), ztc, aTs, aTn, aOs, aOn, M, bOs, bOn, yop, bSo, bNu, ytr, 0, wMa, wPr, bind_of (negated_no c) _, rfl, hR, hM⟩
set_option maxRecDepth 4000 in
theorem op_norm {zp : Int32} {ze : Int32} {zf : Int32} {zg : Int32} {zn : Int32} {aG : Nat → Int32} {aW : Nat → Int32} {aR : Nat → Int32} {aN : Nat → Int32} {aF : Nat → Int32} {lC : Nat → Int64} {lS : Nat → Int64} {lP : Nat → Int64} {lX : Nat → Int64} {ztc : Int32} {aTs : Nat → Int32} {aTn : Nat → Int32} {zoc : Int32} {aOs : Nat → Int32} {aOn : Nat → Int32} {aTp : Nat → Int32} {zln : Int32} {zpl : Int32} {zfa : Int32} {aSz : Nat → Int32} {zit : Int32} {zip : Int32} {zic : Int32} {zig : Int32} {M : Nat → Nat → Int64} {yp : Int32} {ye : Int32} {yg : Int32} {bPo : Nat → Int32} {bTb : Nat → Int32} {wSh : Nat → Int64} {wTe : Nat → Int64} {wNx : Nat → Int64} {bOs : Nat → Int32} {bOn : Nat → Int32} {yop : Int32} {bSo : Nat → Int32} {bNu : Nat → Int32} {ytr : Int32} {yiw : Int32} {wMa : Nat → Int64} {wPr : Nat → Int64} {bTp : Nat → Int32} {yln : Int32} {ypl : Int32} {yfa : Int32} {wLi : Nat → Int64} {bSi : Nat → Int32} {yhp : Int32} {yhe : Int32} {yhg : Int32} {wHs : Nat → Int64} {yhi : Int32} (h : Rel zp ze zf zg zn aG aW aR aN aF lC lS lP lX ztc aTs aTn zoc aOs aOn aTp zln zpl zfa aSz zit zip zic zig M yp ye yg bPo bTb wSh wTe wNx bOs bOn yop bSo bNu ytr yiw wMa wPr bTp yln ypl yfa wLi bSi yhp yhe yhg wHs yhi) (v1 : Int32) : ∃ z1 z2, f_X4_norm ze aF ztc aTs aTn zoc aOs aOn M v1 = some z1 ∧ f_X5_norm yp ye bPo bTb wSh bOs bOn yop bSo bNu ytr yiw wMa wPr v1 = some z2 ∧ z1.1 = z2.1 ∧ Rel zp ze zf zg zn aG aW aR aN aF lC lS lP lX z1.2.1 z1.2.2.1 z1.2.2.2.1 z1.2.2.2.2.1 z1.2.2.2.2.2.1 z1.2.2.2.2.2.2.1 aTp zln zpl zfa aSz zit zip zic zig z1.2.2.2.2.2.2.2 yp ye yg bPo bTb wSh wTe wNx z2.2.1 z2.2.2.1 z2.2.2.2.1 z2.2.2.2.2.1 z2.2.2.2.2.2.1 z2.2.2.2.2.2.2.1 z2.2.2.2.2.2.2.2.1 z2.2.2.2.2.2.2.2.2.1 z2.2.2.2.2.2.2.2.2.2 bTp yln ypl yfa wLi bSi yhp yhe yhg wHs yhi := by
  obtain ⟨hK, hS, hT, hP, hL, hI⟩ := h
  obtain ⟨P, E, g, hV, ⟨rfl, rfl, rfl, rfl, rfl⟩, hG, hW, hRa, hN, hF, hC, ⟨rfl, rfl, rfl⟩, hPo, hTb⟩ := hK
  have hK : RelK (nI P) (nI E) (nI ((P - 1) / E)) (nI g) (nI (gens P).length) aG aW aR aN aF lC (nI P) (nI E) (nI g) bPo bTb := ⟨P, E, g, hV, ⟨rfl, rfl, rfl, rfl, rfl⟩, hG, hW, hRa, hN, hF, hC, ⟨rfl, rfl, rfl⟩, hPo, hTb⟩
  have hb := hV.bd
  unfold f_X4_norm f_X5_norm
  obtain ⟨rfl, hT2⟩ := hT
  have hT : RelT ztc aTs aTn 0 bSo bNu ytr := ⟨rfl, hT2⟩
  simp only [pu_shelf4, pu_shelf5, Option.bind_some, pu_if]
  by_cases h1 : inb v1 4 = true
  · obtain ⟨s, hs, rfl⟩ := inb_ex h1 (by omega)
    simp only [if_pos h1, nI_clamp (show s < 2 ^ 31 by omega), Nat.zero_add]
    obtain ⟨w1, e1, g1, -⟩ := becomesWhole_ok (E := E) (r := 0) (by omega) (by omega) 1 wMa
    have e1 : f_X5_becomesWhole (nI E) wMa 0 1 = some w1 := e1
    have g4 : MR E 30 (va_up M 30 (swr (-(1 : Int32).toInt64) 12 (M 30))) (fun _ => -1) := fun h hh => by
      rw [up_s, swr_in (by omega)]
      rfl
    obtain ⟨w, ztc', aTs', aTn', aOs2, aOn2, M2, bOs', bOn', yop', bSo', bNu', ytr', yiw', wMa2, wPr2, b1, b2, b3, b4⟩ := lp_no (s := s) hV hs hF hPo hTb ztc aTs aTn bSo bNu ytr hT wSh M (fun _ _ => rfl) (relS_row (by omega) hS hs) FU 0 aOs aOn bOs bOn 0 _ w1 wPr _ (Nat.zero_le _) (by show _ < 2000; omega) g4 g1 (fun r hr => up_n _ _ (by omega))
    unfold f_X5_begins_ f_X2_normOf f_X4_setWhole
    rw [Option.bind_some, Option.bind_some]
    exact ⟨_, _, bind_of b1 _, (bind_of e1 _).trans b2, rfl, hK, relS_low (by omega) hS (fun r hr => b4 r (by omega)), b3, hP, relL_M (fun r hr1 hr2 => b4 r (by omega)) hL, relI_M (fun r hr1 hr2 => b4 r (by omega)) hI⟩
  · simp only [if_neg h1]
    exact ⟨_, _, rfl, rfl, rfl, hK, hS, hT, hP, hL, hI⟩

