/-! TRACE -/
theorem lp_tc {E s : Nat} (hE : E ≤ 12) (hs : s < 4) {a : Nat → Int64} {ztc : Int32} {aTs aTn aOs aOn bOs bOn bSo bNu : Nat → Int32} {ytr : Int32} (hR : RelT ztc aTs aTn 0 bSo bNu ytr) {wSh : Nat → Int64} {M : Nat → Nat → Int64} (ha : MR E s M a) (ha2 : FR E s wSh a) : ∀ (fu k : Nat) (acc : Int64), k ≤ E → E - k < fu →
    (∃ w ztc' aTs' aTn' bSo' bNu' ytr' yiw', f_X2_traceOf_L5 (nI E) aOs aOn M s fu ztc aTs aTn 0 acc (nI k) = some (w, ztc', aTs', aTn', 0) ∧ f_X5_trace_L20 (nI E) wSh bOs bOn (nI s) fu 0 bSo bNu ytr 0 acc (nI k) = some (w, 0, bSo', bNu', ytr', yiw') ∧ RelT ztc' aTs' aTn' 0 bSo' bNu' ytr') := by
  intro fu
  induction fu with
  | zero => intro k _ g1 g2; exact absurd g2 (Nat.not_lt_zero _)
  | succ fu ih =>
    intro k acc g1 g2
    rw [f_X2_traceOf_L5, f_X5_trace_L20]
    have e0 : ¬ (1 : Int32) = 0 := by decide
    rcases Nat.lt_or_ge k E with q | q
    · have n1 : ¬ nI E ≤ nI k := q_nle (by omega) (by omega) q
      have a1 : inb (nI k) (rl s) = true := inb_t (rl_lt (by omega)) (by omega)
      have a2 : inb (nI (12 * s + k)) 48 = true := inb_t (by omega) (by omega)
      simp only [if_neg n1, if_pos a1, pu_i12, if_pos a2, nI_clamp (show k < 2 ^ 31 by omega), nI_clamp (show 12 * s + k < 2 ^ 31 by omega), ha k q, ha2 k q, pu_sumFits, pu_isSumOver, Option.bind_some, ↓reduceIte]
      by_cases c : ovS acc (a k) = true
      · obtain ⟨fu2, rfl⟩ : ∃ fu2, fu = fu2 + 1 := ⟨fu - 1, by omega⟩
        simp only [c, ↓reduceIte, if_neg e0]
        refine ⟨-9223372036854775808, 1, tS aTs aOs 0 4, tS aTn aOn 0 (nI k), tS bSo bOs 0 4, tS bNu bOn 0 (nI k), 1, 1, bind_of (show f_X3_report ztc aTs aTn 0 aOs aOn 4 (nI k) = some (0, 1, tS aTs aOs 0 4, tS aTn aOn 0 (nI k), 0) from report_ok (o := 0) (by decide) ztc aTs aTn aOs aOn 4 (nI k)) _, ?_, relT_told (o := 0) (by decide) (OP.zero aOs aOn bOs bOn) aTs aTn bSo bNu 4 (nI k)⟩
        refine (bind_of (show f_X5_wrong bOs bOn 0 bSo bNu ytr 0 4 (nI k) = some (tS bSo bOs 0 4, tS bNu bOn 0 (nI k), 1, 1) from wrong_ok (o := 0) (by decide) bOs bOn bSo bNu ytr 0 4 (nI k)) _).trans ?_
        show f_X5_trace_L20 _ _ _ _ _ (fu2 + 1) _ _ _ _ _ _ _ = _
        rw [f_X5_trace_L20]
        by_cases c : nI E ≤ nI k + 1
        · rw [if_pos c]; rfl
        · rw [if_neg c]; rfl
      · have c : ovS acc (a k) = false := Bool.eq_false_iff.mpr c
        simp only [c, Bool.false_eq_true, ↓reduceIte, if_neg e0, q_s k]
        exact ih (k + 1) _ (by omega) (by omega)
    · have n1 : nI E ≤ nI k := q_le (by omega) (by omega) q
      simp only [if_pos n1, ↓reduceIte, pu_cmp_eq]
      by_cases c : acc = -9223372036854775808
      · rw [c, if_pos rfl]
        refine ⟨-9223372036854775808, 1, tS aTs aOs 0 4, tS aTn aOn 0 (nI E), tS bSo bOs 0 4, tS bNu bOn 0 (nI E), 1, 1, bind_of negated_ov _, ?_, relT_told (o := 0) (by decide) (OP.zero aOs aOn bOs bOn) aTs aTn bSo bNu 4 (nI E)⟩
        exact bind_of (show f_X5_wrong bOs bOn 0 bSo bNu ytr 0 4 (nI E) = some (tS bSo bOs 0 4, tS bNu bOn 0 (nI E), 1, 1) from wrong_ok (o := 0) (by decide) bOs bOn bSo bNu ytr 0 4 (nI E)) _
      · rw [if_neg c]
        exact ⟨-acc, ztc, aTs, aTn, bSo, bNu, ytr, 0, bind_of (negated_no c) _, rfl, hR⟩
set_option maxRecDepth 4000 in
theorem op_trace {zp : Int32} {ze : Int32} {zf : Int32} {zg : Int32} {zn : Int32} {aG : Nat → Int32} {aW : Nat → Int32} {aR : Nat → Int32} {aN : Nat → Int32} {aF : Nat → Int32} {lC : Nat → Int64} {lS : Nat → Int64} {lP : Nat → Int64} {lX : Nat → Int64} {ztc : Int32} {aTs : Nat → Int32} {aTn : Nat → Int32} {zoc : Int32} {aOs : Nat → Int32} {aOn : Nat → Int32} {aTp : Nat → Int32} {zln : Int32} {zpl : Int32} {zfa : Int32} {aSz : Nat → Int32} {zit : Int32} {zip : Int32} {zic : Int32} {zig : Int32} {M : Nat → Nat → Int64} {yp : Int32} {ye : Int32} {yg : Int32} {bPo : Nat → Int32} {bTb : Nat → Int32} {wSh : Nat → Int64} {wTe : Nat → Int64} {wNx : Nat → Int64} {bOs : Nat → Int32} {bOn : Nat → Int32} {yop : Int32} {bSo : Nat → Int32} {bNu : Nat → Int32} {ytr : Int32} {yiw : Int32} {wMa : Nat → Int64} {wPr : Nat → Int64} {bTp : Nat → Int32} {yln : Int32} {ypl : Int32} {yfa : Int32} {wLi : Nat → Int64} {bSi : Nat → Int32} {yhp : Int32} {yhe : Int32} {yhg : Int32} {wHs : Nat → Int64} {yhi : Int32} (h : Rel zp ze zf zg zn aG aW aR aN aF lC lS lP lX ztc aTs aTn zoc aOs aOn aTp zln zpl zfa aSz zit zip zic zig M yp ye yg bPo bTb wSh wTe wNx bOs bOn yop bSo bNu ytr yiw wMa wPr bTp yln ypl yfa wLi bSi yhp yhe yhg wHs yhi) (v1 : Int32) : ∃ z1 z2, f_X4_trace ze ztc aTs aTn zoc aOs aOn M v1 = some z1 ∧ f_X5_trace ye wSh bOs bOn yop bSo bNu ytr yiw v1 = some z2 ∧ z1.1 = z2.1 ∧ Rel zp ze zf zg zn aG aW aR aN aF lC lS lP lX z1.2.1 z1.2.2.1 z1.2.2.2.1 z1.2.2.2.2 aOs aOn aTp zln zpl zfa aSz zit zip zic zig M yp ye yg bPo bTb wSh wTe wNx bOs bOn z2.2.1 z2.2.2.1 z2.2.2.2.1 z2.2.2.2.2.1 z2.2.2.2.2.2 wMa wPr bTp yln ypl yfa wLi bSi yhp yhe yhg wHs yhi := by
  obtain ⟨hK, hS, hT, hP, hL, hI⟩ := h
  obtain ⟨P, E, g, hV, ⟨rfl, rfl, rfl, rfl, rfl⟩, hG, hW, hRa, hN, hF, hC, ⟨rfl, rfl, rfl⟩, hPo, hTb⟩ := hK
  have hK : RelK (nI P) (nI E) (nI ((P - 1) / E)) (nI g) (nI (gens P).length) aG aW aR aN aF lC (nI P) (nI E) (nI g) bPo bTb := ⟨P, E, g, hV, ⟨rfl, rfl, rfl, rfl, rfl⟩, hG, hW, hRa, hN, hF, hC, ⟨rfl, rfl, rfl⟩, hPo, hTb⟩
  have hb := hV.bd
  unfold f_X4_trace f_X5_trace
  obtain ⟨rfl, hT2⟩ := hT
  have hT : RelT ztc aTs aTn 0 bSo bNu ytr := ⟨rfl, hT2⟩
  simp only [pu_shelf4, pu_shelf5, Option.bind_some, pu_if]
  by_cases h1 : inb v1 4 = true
  · obtain ⟨s, hs, rfl⟩ := inb_ex h1 (by omega)
    simp only [if_pos h1, nI_clamp (show s < 2 ^ 31 by omega), Nat.zero_add]
    unfold f_X5_begins_ f_X2_traceOf
    rw [Option.bind_some]
    obtain ⟨w, ztc', aTs', aTn', bSo', bNu', ytr', yiw', b1, b2, b3⟩ := lp_tc (s := s) (aOs := aOs) (aOn := aOn) (bOs := bOs) (bOn := bOn) hb.2.2.2.1 hs hT (fun _ _ => rfl) (relS_row (by omega) hS hs) FU 0 0 (Nat.zero_le _) (by show _ < 2000; omega)
    exact ⟨_, _, bind_of b1 _, b2, rfl, hK, hS, b3, hP, hL, hI⟩
  · simp only [if_neg h1]
    exact ⟨_, _, rfl, rfl, rfl, hK, hS, hT, hP, hL, hI⟩

