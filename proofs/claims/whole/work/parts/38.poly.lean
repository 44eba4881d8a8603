/-! POLYNOMIAL and ROOTS -/
/-- the reference's terms behind n factors -/
def RQ (P E K n : Nat) (w : Nat → Int64) : Prop := ∀ k h, k < 14 → h < E → w (12 * k + h) = lN (tQ P E K n k h)
def NQ (P E g i : Nat) (w : Nat → Int64) (k h : Nat) : Int64 := (if k = 0 then 0 else w (12 * (k - 1) + h)) + dotL (fun j => w (12 * k + j) * -(tim P E g i j h).toInt64) E
theorem lp_p2 {P E : Nat} {bPo bTb : Nat → Int32} (hE : E ≤ 12) (wNx : Nat → Int64) : ∀ (fu k : Nat) (wTe : Nat → Int64), k ≤ 168 → 168 - k < fu → (∀ x, x < k → wTe x = if x < E then -1 else 0) →
    ∃ wTe', f_X5_findsPolynomial_L2 (nI P) (nI E) bPo bTb fu wTe wNx (nI k) = f_X5_findsPolynomial_L38 (nI P) (nI E) bPo bTb FU wTe' wNx 0 ∧ ∀ x, x < 168 → wTe' x = if x < E then -1 else 0 := by
  intro fu
  induction fu with
  | zero => intro k wTe g1 g2; exact absurd g2 (Nat.not_lt_zero _)
  | succ fu ih =>
    intro k wTe g1 g2 hA
    rw [f_X5_findsPolynomial_L2]
    rcases Nat.lt_or_ge k 168 with q | q
    · have n1 : ¬ (168 : Int32) ≤ nI k := q_nle (a := 168) (by omega) (by omega) q
      have a1 : inb (nI k) 168 = true := inb_t q (by omega)
      rw [if_neg n1, nI_clamp (by omega), q_s]
      by_cases c : k < E
      · rw [if_neg (q_nle (by omega) (by omega) c), if_pos a1]
        refine ih (k + 1) _ (by omega) (by omega) (fun x hx => ?_)
        by_cases e : x = k
        · rw [e, vL_s, if_pos c]
        · rw [vL_n e]
          exact hA x (by omega)
      · rw [if_pos (q_le (by omega) (by omega) (Nat.not_lt.mp c)), if_pos a1]
        refine ih (k + 1) _ (by omega) (by omega) (fun x hx => ?_)
        by_cases e : x = k
        · rw [e, vL_s, if_neg c]
        · rw [vL_n e]
          exact hA x (by omega)
    · have n1 : (168 : Int32) ≤ nI k := q_le (a := 168) (by omega) (by omega) q
      rw [if_pos n1]
      exact ⟨wTe, rfl, fun x hx => hA x (by omega)⟩
theorem lp_p94 {P E g i k h : Nat} (hV : Vd P E g) {bPo bTb : Nat → Int32} (hW : PW P g bPo) (hT : TB P E g bTb) (hi : i < E) (hh : h < E) (hk : k ≤ 13) {KK : (Nat → Int64) → (Nat → Int64) → Int32 → Int32 → Int32 → Option ((Nat → Int64) × (Nat → Int64))} (wTe : Nat → Int64) (X : Int64) : ∀ (fu j : Nat) (wNx : Nat → Int64), j ≤ E → E - j < fu → wNx h = X + dotL (fun j => wTe (12 * k + j) * -(tim P E g i j h).toInt64) j →
    ∃ wNx', f_X5_findsPolynomial_L94 (nI P) (nI E) bPo bTb KK fu wTe wNx (nI i) (nI k) (nI h) (nI j) = KK wTe wNx' (nI i) (nI k) (nI h + 1) ∧ wNx' h = X + dotL (fun j => wTe (12 * k + j) * -(tim P E g i j h).toInt64) E ∧ ∀ h', h' ≠ h → wNx' h' = wNx h' := by
  have hb := hV.bd
  intro fu
  induction fu with
  | zero => intro j wNx g1 g2; exact absurd g2 (Nat.not_lt_zero _)
  | succ fu ih =>
    intro j wNx g1 g2 hA
    rw [f_X5_findsPolynomial_L94]
    rcases Nat.lt_or_ge j E with q | q
    · have a1 : inb (nI h) 12 = true := inb_t (by omega) (by omega)
      have a2 : inb (nI (12 * k + j)) 168 = true := inb_t (by omega) (by omega)
      rw [if_neg (q_nle (by omega) (by omega) q), if_pos a1, pu_i12, if_pos a2, timesOf_ok hV hW hT hi q hh, Option.bind_some, if_pos a1, nI_clamp (show h < 2 ^ 31 by omega), nI_clamp (show 12 * k + j < 2 ^ 31 by omega), q_s]
      obtain ⟨wNx', e1, e2, e3⟩ := ih (j + 1) (vp_updL wNx h (wNx h - wTe (12 * k + j) * (tim P E g i j h).toInt64)) (by omega) (by omega) (by
        rw [vL_s, hA, Int64.sub_eq_add_neg, ← Int64.mul_neg, Int64.add_assoc]; rfl)
      exact ⟨wNx', e1, e2, fun h' hh' => by rw [e3 h' hh', vL_n hh']⟩
    · have e : j = E := by omega
      rw [if_pos (q_le (by omega) (by omega) q)]
      exact ⟨wNx, rfl, by rw [hA, e], fun _ _ => rfl⟩
theorem lp_p56 {P E g i k : Nat} (hV : Vd P E g) {bPo bTb : Nat → Int32} (hW : PW P g bPo) (hT : TB P E g bTb) (hi : i < E) (hk : k ≤ 13) {KK : (Nat → Int64) → (Nat → Int64) → Int32 → Int32 → Option ((Nat → Int64) × (Nat → Int64))} (wTe : Nat → Int64) : ∀ (fu h : Nat) (wNx : Nat → Int64), h ≤ E → E - h < fu → (∀ h', h' < h → wNx h' = NQ P E g i wTe k h') →
    ∃ wTe' wNx', f_X5_findsPolynomial_L56 (nI P) (nI E) bPo bTb KK fu wTe wNx (nI i) (nI k) (nI h) = KK wTe' wNx' (nI i) (nI k + (-1)) ∧ FR E k wTe' (NQ P E g i wTe k) ∧ FO E k wTe wTe' := by
  have hb := hV.bd
  intro fu
  induction fu with
  | zero => intro h wNx g1 g2; exact absurd g2 (Nat.not_lt_zero _)
  | succ fu ih =>
    intro h wNx g1 g2 hA
    rw [f_X5_findsPolynomial_L56]
    rcases Nat.lt_or_ge h E with q | q
    · have a1 : inb (nI h) 12 = true := inb_t (by omega) (by omega)
      have key : ∀ X : Int64, X = (if k = 0 then 0 else wTe (12 * (k - 1) + h)) → ∃ wTe' wNx', f_X5_findsPolynomial_L94 (nI P) (nI E) bPo bTb (fun w0 w1 w2 w3 w4 => f_X5_findsPolynomial_L56 (nI P) (nI E) bPo bTb KK fu w0 w1 w2 w3 w4) FU wTe (vp_updL wNx h X) (nI i) (nI k) (nI h) 0 = KK wTe' wNx' (nI i) (nI k + (-1)) ∧ FR E k wTe' (NQ P E g i wTe k) ∧ FO E k wTe wTe' := by
        intro X hX
        obtain ⟨wN2, e1, e2, e3⟩ := lp_p94 (KK := fun w0 w1 w2 w3 w4 => f_X5_findsPolynomial_L56 (nI P) (nI E) bPo bTb KK fu w0 w1 w2 w3 w4) hV hW hT hi q hk wTe X FU 0 (vp_updL wNx h X) (Nat.zero_le _) (by show _ < 2000; omega) (by rw [vL_s]; exact (Int64.add_zero X).symm)
        rw [show (0 : Int32) = nI 0 from rfl, e1]
        show ∃ wTe' wNx', f_X5_findsPolynomial_L56 _ _ _ _ _ _ _ _ _ _ (nI h + 1) = _ ∧ _ ∧ _
        rw [q_s]
        refine ih (h + 1) wN2 (by omega) (by omega) (fun h' hh' => ?_)
        by_cases e : h' = h
        · rw [e, e2, hX]; rfl
        · rw [e3 h' e, vL_n e]
          exact hA h' (by omega)
      rw [if_neg (q_nle (by omega) (by omega) q)]
      by_cases hk0 : k = 0
      · rw [if_pos (show nI k ≤ 0 from by rw [hk0]; decide), if_pos a1, nI_clamp (show h < 2 ^ 31 by omega)]
        exact key 0 (by rw [if_pos hk0])
      · have a2 : inb (nI (12 * (k - 1) + h)) 168 = true := inb_t (by omega) (by omega)
        rw [if_neg (nI_nle (show 0 < k by omega) (by omega)), q_pred (by omega), pu_i12, if_pos a2, if_pos a1, nI_clamp (show h < 2 ^ 31 by omega), nI_clamp (show 12 * (k - 1) + h < 2 ^ 31 by omega)]
        exact key _ (by rw [if_neg hk0])
    · have c1 : cpk 0 (nI (12 * k)) (nI E) 12 168 = true := cpk_ok (a := 0) (b := 12 * k) (by omega) (by omega) (by decide) (by decide)
      rw [if_pos (q_le (by omega) (by omega) q), q_12, if_pos c1, nI_clamp (show 12 * k < 2 ^ 31 by omega), nI_clamp (show E < 2 ^ 31 by omega)]
      have hr := cpy_row (E := E) (r := k) (s := 0) (f := wNx) (g := wTe) (v := NQ P E g i wTe k) (fun h' hh' => by rw [Nat.mul_zero, Nat.zero_add]; exact hA h' (by omega))
      exact ⟨_, wNx, rfl, hr.1, hr.2⟩
theorem m1_s (k : Nat) : nI (k + 1) + (-1) = nI k := by
  rw [← Int32.sub_eq_add_neg]
  exact nI_pred k
theorem lp_p50 {P E g i : Nat} (hV : Vd P E g) {bPo bTb : Nat → Int32} (hW : PW P g bPo) (hT : TB P E g bTb) (hi : i < E) {KK : (Nat → Int64) → (Nat → Int64) → Int32 → Option ((Nat → Int64) × (Nat → Int64))} : ∀ (fu n : Nat) (wTe wNx : Nat → Int64), n ≤ i + 2 → n < fu → (∀ k h, k < 14 → h < E → wTe (12 * k + h) = lN (tQ P E (KTf P E g (tabN P g)) (if n ≤ k then i + 1 else i) k h)) →
    ∃ wTe' wNx', f_X5_findsPolynomial_L50 (nI P) (nI E) bPo bTb KK fu wTe wNx (nI i) (nI n + (-1)) = KK wTe' wNx' (nI i + 1) ∧ RQ P E (KTf P E g (tabN P g)) (i + 1) wTe' := by
  have hb := hV.bd
  intro fu
  induction fu with
  | zero => intro n wTe wNx g1 g2; exact absurd g2 (Nat.not_lt_zero _)
  | succ fu ih =>
    intro n wTe wNx g1 g2 hA
    rw [f_X5_findsPolynomial_L50]
    cases n with
    | zero =>
      rw [if_pos (show nI 0 + (-1) < 0 by decide)]
      exact ⟨wTe, wNx, rfl, fun k h hk hh => by rw [hA k h hk hh, if_pos (Nat.zero_le _)]⟩
    | succ k =>
      have n1 : ¬ nI k < 0 := q_nlt (b := 0) (by omega) (by omega) (Nat.zero_le _)
      rw [m1_s, if_neg n1]
      obtain ⟨wT2, wN2, e1, e2, e3⟩ := lp_p56 (k := k) (KK := fun w0 w1 w2 w3 => f_X5_findsPolynomial_L50 (nI P) (nI E) bPo bTb KK fu w0 w1 w2 w3) hV hW hT hi (by omega) wTe FU 0 wNx (Nat.zero_le _) (by show _ < 2000; omega) (fun h' hh' => absurd hh' (Nat.not_lt_zero _))
      rw [show (0 : Int32) = nI 0 from rfl, e1]
      show ∃ wTe' wNx', f_X5_findsPolynomial_L50 _ _ _ _ _ _ wT2 wN2 _ (nI k + (-1)) = _ ∧ _
      refine ih k wT2 wN2 (by omega) (by omega) (fun k' h hk' hh => ?_)
      by_cases e : k' = k
      · rw [e, if_pos (Nat.le_refl k), e2 h hh, tQ_s]
        unfold NQ
        congr 1
        · by_cases hk0 : k = 0
          · rw [if_pos hk0, if_pos hk0]
          · rw [if_neg hk0, if_neg hk0, hA (k - 1) h (by omega) hh, if_neg (by omega)]
        · refine dotL_cong (fun j hj => ?_)
          rw [hA k j (by omega) hj, if_neg (by omega), (mN_tim hV hi hj hh).1]
      · rw [e3.row hb.2.2.2.1 e hh, hA k' h hk' hh]
        by_cases c : k ≤ k'
        · rw [if_pos c, if_pos (by omega)]
        · rw [if_neg c, if_neg (by omega)]
theorem lp_p38 {P E g : Nat} (hV : Vd P E g) {bPo bTb : Nat → Int32} (hW : PW P g bPo) (hT : TB P E g bTb) : ∀ (fu i : Nat) (wTe wNx : Nat → Int64), i ≤ E → E - i < fu → RQ P E (KTf P E g (tabN P g)) i wTe →
    ∃ wTe' wNx', f_X5_findsPolynomial_L38 (nI P) (nI E) bPo bTb fu wTe wNx (nI i) = some (wTe', wNx') ∧ RQ P E (KTf P E g (tabN P g)) E wTe' := by
  have hb := hV.bd
  intro fu
  induction fu with
  | zero => intro i wTe wNx g1 g2; exact absurd g2 (Nat.not_lt_zero _)
  | succ fu ih =>
    intro i wTe wNx g1 g2 hA
    rw [f_X5_findsPolynomial_L38]
    rcases Nat.lt_or_ge i E with q | q
    · rw [if_neg (q_nle (by omega) (by omega) q), q_s, ← m1_s (i + 1)]
      obtain ⟨wT2, wN2, e1, e2⟩ := lp_p50 (KK := fun w0 w1 w2 => f_X5_findsPolynomial_L38 (nI P) (nI E) bPo bTb fu w0 w1 w2) hV hW hT q FU (i + 1 + 1) wTe wNx (by omega) (by show _ < 2000; omega) (fun k h hk hh => by
        rw [hA k h hk hh]
        by_cases c : i + 1 + 1 ≤ k
        · rw [if_pos c, tQ_hi (by omega), tQ_hi (by omega)]
        · rw [if_neg c])
      rw [e1]
      show ∃ wTe' wNx', f_X5_findsPolynomial_L38 _ _ _ _ _ wT2 wN2 (nI i + 1) = _ ∧ _
      rw [q_s]
      exact ih (i + 1) wT2 wN2 (by omega) (by omega) e2
    · have e : i = E := by omega
      rw [if_pos (q_le (by omega) (by omega) q)]
      exact ⟨wTe, wNx, rfl, by rw [← e]; rw [e]; rw [e] at hA; exact hA⟩
theorem findsPolynomial_ok {P E g : Nat} (hV : Vd P E g) {bPo bTb : Nat → Int32} (hW : PW P g bPo) (hT : TB P E g bTb) (wTe wNx : Nat → Int64) : ∃ wTe' wNx', f_X5_findsPolynomial (nI P) (nI E) bPo bTb wTe wNx = some (wTe', wNx') ∧ ∀ k, k ≤ E → pol P E k = -(wTe' (12 * k)) := by
  have hb := hV.bd
  obtain ⟨wT1, e1, h1⟩ := lp_p2 (P := P) (bPo := bPo) (bTb := bTb) hb.2.2.2.1 wNx FU 0 wTe (Nat.zero_le _) (by show _ < 2000; omega) (fun x hx => absurd hx (Nat.not_lt_zero _))
  obtain ⟨wT2, wN2, e2, h2⟩ := lp_p38 hV hW hT FU 0 wT1 wNx (Nat.zero_le _) (by show _ < 2000; omega) (fun k h hk hh => by
    rw [h1 _ (by omega)]
    by_cases c : k = 0
    · rw [c, Nat.mul_zero, Nat.zero_add, if_pos hh]
      show -1 = lN 18446744073709551615
      exact lN_m1.symm
    · rw [if_neg (by omega), tQ_hi (by omega)]
      rfl)
  refine ⟨wT2, wN2, ?_, fun k hk => ?_⟩
  · unfold f_X5_findsPolynomial
    exact e1.trans e2
  · have h3 := h2 k 0 (by omega) (by omega)
    rw [Nat.add_zero] at h3
    rw [pol_ok hV hk, h3]
set_option maxRecDepth 4000 in
theorem op_polynomial {zp : Int32} {ze : Int32} {zf : Int32} {zg : Int32} {zn : Int32} {aG : Nat → Int32} {aW : Nat → Int32} {aR : Nat → Int32} {aN : Nat → Int32} {aF : Nat → Int32} {lC : Nat → Int64} {lS : Nat → Int64} {lP : Nat → Int64} {lX : Nat → Int64} {ztc : Int32} {aTs : Nat → Int32} {aTn : Nat → Int32} {zoc : Int32} {aOs : Nat → Int32} {aOn : Nat → Int32} {aTp : Nat → Int32} {zln : Int32} {zpl : Int32} {zfa : Int32} {aSz : Nat → Int32} {zit : Int32} {zip : Int32} {zic : Int32} {zig : Int32} {M : Nat → Nat → Int64} {yp : Int32} {ye : Int32} {yg : Int32} {bPo : Nat → Int32} {bTb : Nat → Int32} {wSh : Nat → Int64} {wTe : Nat → Int64} {wNx : Nat → Int64} {bOs : Nat → Int32} {bOn : Nat → Int32} {yop : Int32} {bSo : Nat → Int32} {bNu : Nat → Int32} {ytr : Int32} {yiw : Int32} {wMa : Nat → Int64} {wPr : Nat → Int64} {bTp : Nat → Int32} {yln : Int32} {ypl : Int32} {yfa : Int32} {wLi : Nat → Int64} {bSi : Nat → Int32} {yhp : Int32} {yhe : Int32} {yhg : Int32} {wHs : Nat → Int64} {yhi : Int32} (h : Rel zp ze zf zg zn aG aW aR aN aF lC lS lP lX ztc aTs aTn zoc aOs aOn aTp zln zpl zfa aSz zit zip zic zig M yp ye yg bPo bTb wSh wTe wNx bOs bOn yop bSo bNu ytr yiw wMa wPr bTp yln ypl yfa wLi bSi yhp yhe yhg wHs yhi) (v1 : Int32) : ∃ z1 z2, f_X4_polynomial ze lC v1 = some z1 ∧ f_X5_polynomial yp ye bPo bTb wTe wNx v1 = some z2 ∧ z1 = z2.1 ∧ Rel zp ze zf zg zn aG aW aR aN aF lC lS lP lX ztc aTs aTn zoc aOs aOn aTp zln zpl zfa aSz zit zip zic zig M yp ye yg bPo bTb wSh z2.2.1 z2.2.2 bOs bOn yop bSo bNu ytr yiw wMa wPr bTp yln ypl yfa wLi bSi yhp yhe yhg wHs yhi := by
  obtain ⟨hK, hS, hT, hP, hL, hI⟩ := h
  obtain ⟨P, E, g, hV, ⟨rfl, rfl, rfl, rfl, rfl⟩, hG, hW, hRa, hN, hF, hC, ⟨rfl, rfl, rfl⟩, hPo, hTb⟩ := hK
  have hK : RelK (nI P) (nI E) (nI ((P - 1) / E)) (nI g) (nI (gens P).length) aG aW aR aN aF lC (nI P) (nI E) (nI g) bPo bTb := ⟨P, E, g, hV, ⟨rfl, rfl, rfl, rfl, rfl⟩, hG, hW, hRa, hN, hF, hC, ⟨rfl, rfl, rfl⟩, hPo, hTb⟩
  have hb := hV.bd
  obtain ⟨wT, wN, b1, b2⟩ := findsPolynomial_ok hV hPo hTb wTe wNx
  unfold f_X4_polynomial f_X5_polynomial
  rw [pu_in0 v1 (nI E) (n := E + 1) (by omega) (by rw [nI_toInt (by omega)]; omega)]
  simp only [Option.bind_some, pu_if]
  by_cases h1 : inb v1 (E + 1) = true
  · obtain ⟨k, hk, rfl⟩ := inb_ex h1 (by omega)
    have n1 : ¬ nI k < 0 := q_nlt (b := 0) (by omega) (by omega) (Nat.zero_le _)
    have n2 : nI k ≤ nI E := q_le (by omega) (by omega) (by omega)
    have a1 : inb (nI k) 13 = true := inb_t (by omega) (by omega)
    have a2 : inb (nI (12 * k)) 168 = true := inb_t (by omega) (by omega)
    rw [if_neg n1, if_pos n2, if_pos a1, if_pos h1, b1, Option.bind_some, q_12, if_pos a2, nI_clamp (show k < 2 ^ 31 by omega), nI_clamp (show 12 * k < 2 ^ 31 by omega)]
    exact ⟨_, _, rfl, rfl, by rw [hC k (by omega)]; exact b2 k (by omega), hK, hS, hT, hP, hL, hI⟩
  · rw [if_neg h1]
    have h2 : inb v1 (E + 1) = false := Bool.eq_false_iff.mpr h1
    refine ⟨-9223372036854775808, _, ?_, rfl, rfl, hK, hS, hT, hP, hL, hI⟩
    rcases (inb_f (show E + 1 < 2 ^ 31 by omega)).mp h2 with c | c
    · rw [if_pos c]
    · by_cases c0 : v1 < 0
      · rw [if_pos c0]
      · rw [if_neg c0, if_neg (fun w => by
          rw [Int32.le_iff_toInt_le, nI_toInt (by omega)] at c w
          omega)]
theorem lp_r {E q x : Nat} (hE : E ≤ 12) (hq : 2 ≤ q) (hq2 : q ≤ 97) {yp : Int32} {bPo bTb : Nat → Int32} {lC wTe : Nat → Int64} (wNx : Nat → Int64) (hC : ∀ k, k ≤ E → lC k = -(wTe (12 * k))) {K4 : Int32 → Int32 → Option Int32} {K5 : (Nat → Int64) → (Nat → Int64) → Int32 → Int32 → Option (Int32 × (Nat → Int64) × (Nat → Int64))} (c : Int32) : ∀ (fu n : Nat) (v : Int64), n ≤ E + 1 → n < fu →
    ∃ d : Nat, d ≤ 1 ∧ f_X4_roots_L35 (nI E) lC (nI q) K4 fu c (nI x) v (nI n + (-1)) = K4 (c + nI d) (nI x + 1) ∧ f_X5_roots_L39 yp (nI E) bPo bTb (nI q) K5 fu wTe wNx c (nI x) v (nI n + (-1)) = K5 wTe wNx (c + nI d) (nI x + 1) := by
  intro fu
  induction fu with
  | zero => intro n v g1 g2; exact absurd g2 (Nat.not_lt_zero _)
  | succ fu ih =>
    intro n v g1 g2
    rw [f_X4_roots_L35, f_X5_roots_L39]
    cases n with
    | zero =>
      simp only [if_pos (show nI 0 + (-1) < 0 by decide), pu_cmp_eq]
      by_cases e : v = 0
      · rw [if_pos e, if_pos e]
        exact ⟨1, by omega, rfl, rfl⟩
      · rw [if_neg e, if_neg e]
        exact ⟨0, by omega, by rw [show c + nI 0 = c from Int32.add_zero c], rfl⟩
    | succ k =>
      have n1 : ¬ nI k < 0 := q_nlt (b := 0) (by omega) (by omega) (Nat.zero_le _)
      have a1 : inb (nI k) 13 = true := inb_t (by omega) (by omega)
      have a2 : inb (nI (12 * k)) 168 = true := inb_t (by omega) (by omega)
      have hne : ¬ (nI q).toInt64 = 0 := by
        rw [nI_l (by omega)]
        exact fun w => absurd ((lN_eq (a := q) (b := 0) (by omega) (by omega)).mp w) (by omega)
      rw [m1_s, if_neg n1, if_neg n1, if_pos a1, q_12, if_pos a2, if_neg hne, if_neg hne, nI_clamp (show k < 2 ^ 31 by omega), nI_clamp (show 12 * k < 2 ^ 31 by omega), hC k (by omega), Int64.add_neg_eq_sub]
      exact ih k _ (by omega) (by omega)
theorem lp_rx {E q : Nat} (hE : E ≤ 12) (hq : 2 ≤ q) (hq2 : q ≤ 97) {yp : Int32} {bPo bTb : Nat → Int32} {lC wTe : Nat → Int64} (wNx : Nat → Int64) (hC : ∀ k, k ≤ E → lC k = -(wTe (12 * k))) : ∀ (fu x : Nat) (c : Int32), x ≤ q → q - x < fu →
    ∃ r, f_X4_roots_L18 (nI E) lC (nI q) fu c (nI x) = some r ∧ f_X5_roots_L25 yp (nI E) bPo bTb (nI q) fu wTe wNx c (nI x) = some (r, wTe, wNx) := by
  intro fu
  induction fu with
  | zero => intro x c g1 g2; exact absurd g2 (Nat.not_lt_zero _)
  | succ fu ih =>
    intro x c g1 g2
    rw [f_X4_roots_L18, f_X5_roots_L25]
    rcases Nat.lt_or_ge x q with w | w
    · obtain ⟨d, -, e1, e2⟩ := lp_r (x := x) (yp := yp) (bPo := bPo) (bTb := bTb) (K4 := fun w0 w1 => f_X4_roots_L18 (nI E) lC (nI q) fu w0 w1) (K5 := fun w0 w1 w2 w3 => f_X5_roots_L25 yp (nI E) bPo bTb (nI q) fu w0 w1 w2 w3) hE hq hq2 wNx hC c FU (E + 1) 0 (Nat.le_refl _) (by show _ < 2000; omega)
      rw [m1_s] at e1 e2
      rw [if_neg (q_nle (by omega) (by omega) w), if_neg (q_nle (by omega) (by omega) w), e1, e2]
      show ∃ r, f_X4_roots_L18 _ _ _ _ _ (nI x + 1) = _ ∧ f_X5_roots_L25 _ _ _ _ _ _ _ _ _ (nI x + 1) = _
      rw [q_s]
      exact ih (x + 1) _ (by omega) (by omega)
    · rw [if_pos (q_le (by omega) (by omega) w), if_pos (q_le (by omega) (by omega) w)]
      exact ⟨c, rfl, rfl⟩
set_option maxRecDepth 4000 in
theorem op_roots {zp : Int32} {ze : Int32} {zf : Int32} {zg : Int32} {zn : Int32} {aG : Nat → Int32} {aW : Nat → Int32} {aR : Nat → Int32} {aN : Nat → Int32} {aF : Nat → Int32} {lC : Nat → Int64} {lS : Nat → Int64} {lP : Nat → Int64} {lX : Nat → Int64} {ztc : Int32} {aTs : Nat → Int32} {aTn : Nat → Int32} {zoc : Int32} {aOs : Nat → Int32} {aOn : Nat → Int32} {aTp : Nat → Int32} {zln : Int32} {zpl : Int32} {zfa : Int32} {aSz : Nat → Int32} {zit : Int32} {zip : Int32} {zic : Int32} {zig : Int32} {M : Nat → Nat → Int64} {yp : Int32} {ye : Int32} {yg : Int32} {bPo : Nat → Int32} {bTb : Nat → Int32} {wSh : Nat → Int64} {wTe : Nat → Int64} {wNx : Nat → Int64} {bOs : Nat → Int32} {bOn : Nat → Int32} {yop : Int32} {bSo : Nat → Int32} {bNu : Nat → Int32} {ytr : Int32} {yiw : Int32} {wMa : Nat → Int64} {wPr : Nat → Int64} {bTp : Nat → Int32} {yln : Int32} {ypl : Int32} {yfa : Int32} {wLi : Nat → Int64} {bSi : Nat → Int32} {yhp : Int32} {yhe : Int32} {yhg : Int32} {wHs : Nat → Int64} {yhi : Int32} (h : Rel zp ze zf zg zn aG aW aR aN aF lC lS lP lX ztc aTs aTn zoc aOs aOn aTp zln zpl zfa aSz zit zip zic zig M yp ye yg bPo bTb wSh wTe wNx bOs bOn yop bSo bNu ytr yiw wMa wPr bTp yln ypl yfa wLi bSi yhp yhe yhg wHs yhi) (v1 : Int32) : ∃ z1 z2, f_X4_roots ze lC v1 = some z1 ∧ f_X5_roots yp ye bPo bTb wTe wNx v1 = some z2 ∧ z1 = z2.1 ∧ Rel zp ze zf zg zn aG aW aR aN aF lC lS lP lX ztc aTs aTn zoc aOs aOn aTp zln zpl zfa aSz zit zip zic zig M yp ye yg bPo bTb wSh z2.2.1 z2.2.2 bOs bOn yop bSo bNu ytr yiw wMa wPr bTp yln ypl yfa wLi bSi yhp yhe yhg wHs yhi := by
  obtain ⟨hK, hS, hT, hP, hL, hI⟩ := h
  obtain ⟨P, E, g, hV, ⟨rfl, rfl, rfl, rfl, rfl⟩, hG, hW, hRa, hN, hF, hC, ⟨rfl, rfl, rfl⟩, hPo, hTb⟩ := hK
  have hK : RelK (nI P) (nI E) (nI ((P - 1) / E)) (nI g) (nI (gens P).length) aG aW aR aN aF lC (nI P) (nI E) (nI g) bPo bTb := ⟨P, E, g, hV, ⟨rfl, rfl, rfl, rfl, rfl⟩, hG, hW, hRa, hN, hF, hC, ⟨rfl, rfl, rfl⟩, hPo, hTb⟩
  have hb := hV.bd
  obtain ⟨wT, wN, b1, b2⟩ := findsPolynomial_ok hV hPo hTb wTe wNx
  unfold f_X4_roots f_X5_roots
  rw [pu_in]
  have e2 : ((2 : Int64) ≤ v1.toInt64 ∧ v1.toInt64 ≤ 97) ↔ (2 ≤ v1.toInt ∧ v1.toInt ≤ 97) := by
    rw [Int64.le_iff_toInt_le, Int64.le_iff_toInt_le, Int32.toInt_toInt64]
    exact Iff.rfl
  by_cases h1 : 2 ≤ v1.toInt ∧ v1.toInt ≤ 97
  · obtain ⟨q, hq, rfl⟩ := inb_ex (v := v1) (n := 98) (inb_iff.mpr (by omega)) (by omega)
    rw [nI_toInt (by omega)] at h1
    have n1 : ¬ nI q < 2 := q_nlt (b := 2) (by omega) (by omega) (by omega)
    have n2 : nI q ≤ 97 := q_le (b := 97) (by omega) (by omega) (by omega)
    have e0 : ¬ (1 : Int32) = 0 := by decide
    obtain ⟨r, c1, c2⟩ := lp_rx (E := E) (q := q) (yp := nI P) (bPo := bPo) (bTb := bTb) (lC := lC) (wTe := wT) (by omega) (by omega) (by omega) wN (fun k hk => by rw [hC k hk]; exact b2 k hk) FU 0 0 (Nat.zero_le _) (by show _ < 2000; omega)
    rw [if_neg n1, if_pos n2, if_pos (e2.mpr (by rw [nI_toInt (by omega)]; omega)), Option.bind_some, if_neg e0, b1, Option.bind_some]
    exact ⟨r, _, c1, c2, rfl, hK, hS, hT, hP, hL, hI⟩
  · rw [if_neg (fun w => h1 (e2.mp w)), Option.bind_some, if_pos rfl]
    refine ⟨-2, _, ?_, rfl, rfl, hK, hS, hT, hP, hL, hI⟩
    by_cases c0 : v1 < 2
    · rw [if_pos c0]
    · rw [if_neg c0, if_neg (fun w => by
        rw [Int32.le_iff_toInt_le] at w
        rw [Int32.lt_iff_toInt_lt] at c0
        have w2 : v1.toInt ≤ 97 := w
        have c2 : ¬ v1.toInt < 2 := c0
        omega)]

