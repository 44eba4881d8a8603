/-! CALLS of the prime part that look up -/
/-- is v one of 1 .. P less 1 -/
def numb (v : Int32) (P : Nat) : Bool := decide (1 ≤ v.toInt) && decide (v.toInt < P)
theorem numb_ex {v : Int32} {P : Nat} (hP : P < 2 ^ 31) (h : numb v P = true) : ∃ x, 1 ≤ x ∧ x < P ∧ v = nI x := by
  simp only [numb, Bool.and_eq_true, decide_eq_true_eq] at h
  obtain ⟨x, hx, rfl⟩ := inb_ex (v := v) (n := P) (inb_iff.mpr ⟨by omega, h.2⟩) hP
  rw [nI_toInt (by omega)] at h
  exact ⟨x, by omega, hx, rfl⟩
theorem numb_nI {x P : Nat} (h1 : 1 ≤ x) (h2 : x < P) (h3 : P < 2 ^ 31) : numb (nI x) P = true := by
  simp only [numb, Bool.and_eq_true, decide_eq_true_eq, nI_toInt (show x < 2 ^ 31 by omega)]
  omega
theorem pu_num4 {P : Nat} (hP : P < 2 ^ 31) (v : Int32) : f_X4_isNumberOfPrime (nI P) v = some (if numb v P then 1 else 0) := by
  unfold f_X4_isNumberOfPrime
  have e1 : v < 1 ↔ v.toInt < 1 := by rw [Int32.lt_iff_toInt_lt]; exact Iff.rfl
  have e2 : nI P ≤ v ↔ (P : Int) ≤ v.toInt := by rw [Int32.le_iff_toInt_le, nI_toInt hP]
  by_cases h1 : v.toInt < 1
  · have : numb v P = false := by simp only [numb]; rw [decide_eq_false (by omega)]; rfl
    rw [if_pos (e1.mpr h1), this]
    rfl
  · by_cases h2 : (P : Int) ≤ v.toInt
    · have : numb v P = false := by simp only [numb]; rw [decide_eq_false (p := v.toInt < P) (by omega)]; exact Bool.and_false _
      rw [if_neg (fun q => h1 (e1.mp q)), if_pos (e2.mpr h2), this]
      rfl
    · have : numb v P = true := by simp only [numb]; rw [decide_eq_true (by omega), decide_eq_true (by omega)]; rfl
      rw [if_neg (fun q => h1 (e1.mp q)), if_neg (fun q => h2 (e2.mp q)), this]
      rfl
theorem pu_num5 {P : Nat} (h1 : 1 ≤ P) (hP : P < 2 ^ 30) (v : Int32) : f_X5_isNumber (nI P) v = some (if numb v P then 1 else 0) := by
  unfold f_X5_isNumber
  rw [pu_in]
  have e : ((1 : Int64) ≤ v.toInt64 ∧ v.toInt64 ≤ (nI P - 1).toInt64) ↔ numb v P = true := by
    simp only [numb, Bool.and_eq_true, decide_eq_true_eq]
    rw [Int64.le_iff_toInt_le, Int64.le_iff_toInt_le, Int32.toInt_toInt64, Int32.toInt_toInt64, show (nI P - 1).toInt = (P : Int) - 1 from pk_sub_toInt (b := 1) hP (by decide)]
    show (1 : Int) ≤ _ ∧ _ ↔ _
    omega
  by_cases h : numb v P = true
  · rw [if_pos (e.mpr h), if_pos h]; rfl
  · rw [if_neg (fun q => h (e.mp q)), if_neg h]; rfl
theorem pu_if {α : Type} (b : Bool) (x y : α) : (if (if b = true then (1 : Int32) else 0) = 0 then x else y) = if b = true then y else x := by cases b <;> rfl
theorem pu_i12 (i j : Nat) : 12 * nI i + nI j = nI (12 * i + j) := by rw [show (12 : Int32) = nI 12 from rfl, pk_mul, nI_add]
theorem pu_i15 (i j : Nat) : 15 * nI i + nI j = nI (15 * i + j) := by rw [show (15 : Int32) = nI 15 from rfl, pk_mul, nI_add]
theorem pu_r12 {E a : Nat} (h : E ≤ 12) : ∀ i, i < E → i < rl a := fun i hi => by have := rl_12 a; omega
theorem isGen0_ok {P : Nat} (hP : P ∈ prs) (v : Int32) : f_X0_isGenerator (nI P) v = some (if numb v P && isG P v.toNatClampNeg then 1 else 0) := by
  have hb := prs_bd hP
  cases hn : numb v P
  · rw [Bool.false_and]
    unfold f_X0_isGenerator
    simp only [numb, Bool.and_eq_false_iff, decide_eq_false_iff_not] at hn
    have e1 : v < 1 ↔ v.toInt < 1 := by rw [Int32.lt_iff_toInt_lt]; exact Iff.rfl
    have e2 : v < nI P ↔ v.toInt < (P : Int) := by rw [Int32.lt_iff_toInt_lt, nI_toInt (by omega)]
    rcases hn with h | h
    · rw [if_pos (e1.mpr (by omega))]; rfl
    · rw [if_neg (fun q => by have := e1.mp q; omega), if_neg (fun q => h (e2.mp q))]; rfl
  · obtain ⟨x, h1, h2, rfl⟩ := numb_ex (by omega) hn
    rw [gen4 P hP x h2, nI_clamp (by omega), Bool.true_and]
theorem lp_be {P E g i j : Nat} (hV : Vd P E g) {bPo : Nat → Int32} (hW : PW P g bPo) (hi : i < 12) (hj : j < 12) : ∀ (fu x : Nat), 1 ≤ x → x ≤ P - 1 → P - 1 - x < fu →
    f_X5_besideOf_L5 (nI P) (nI E) bPo (nI i) (nI j) fu (nI (cnt1 (fun x => cl P E g x == i && cl P E g (x + 1) == j) (x - 1))) (nI x) = some (nI (bes P E g i j)) := by
  have hb := hV.bd
  intro fu
  induction fu with
  | zero => intro x h0 h1 h2; exact absurd h2 (Nat.not_lt_zero _)
  | succ fu ih =>
    intro x h0 h1 h2
    rw [f_X5_besideOf_L5, q_s]
    rcases Nat.lt_or_ge (x + 1) P with q | q
    · have c1 := cl_lt hV x
      have c2 := cl_lt hV (x + 1)
      have hs : cnt1 (fun x => cl P E g x == i && cl P E g (x + 1) == j) (x + 1 - 1) = cnt1 (fun x => cl P E g x == i && cl P E g (x + 1) == j) (x - 1) + (if (cl P E g x == i && cl P E g (x + 1) == j) = true then 1 else 0) := by
        rw [show x + 1 - 1 = x - 1 + 1 by omega, cnt1_s, show x - 1 + 1 = x by omega]
      have h3 := ih (x + 1) (by omega) (by omega) (by omega)
      rw [hs] at h3
      rw [if_neg (q_nle (by omega) (by omega) q), classAt_ok hV hW h0 (by omega), Option.bind_some]
      by_cases z1 : cl P E g x = i
      · rw [if_pos (by rw [z1]), classAt_ok hV hW (by omega) q, Option.bind_some]
        by_cases z2 : cl P E g (x + 1) = j
        · rw [if_pos (by rw [z2])]
          show f_X5_besideOf_L5 _ _ _ _ _ _ (_ + 1) _ = _
          rw [if_pos (by simp [z1, z2])] at h3
          rw [q_s]
          exact h3
        · rw [if_neg (fun w => z2 ((q_eq (by omega) (by omega)).mp w))]
          show f_X5_besideOf_L5 _ _ _ _ _ _ (_ + 0) _ = _
          rw [if_neg (by simp [z2])] at h3
          rw [Int32.add_zero]
          exact h3
      · rw [if_neg (fun w => z1 ((q_eq (by omega) (by omega)).mp w))]
        show f_X5_besideOf_L5 _ _ _ _ _ _ (_ + 0) _ = _
        rw [if_neg (by simp [z1])] at h3
        rw [Int32.add_zero]
        exact h3
    · rw [if_pos (q_le (by omega) (by omega) q), show x - 1 = P - 2 by omega]
      rfl
theorem besideOf_ok {P E g i j : Nat} (hV : Vd P E g) {bPo : Nat → Int32} (hW : PW P g bPo) (hi : i < 12) (hj : j < 12) : f_X5_besideOf (nI P) (nI E) bPo (nI i) (nI j) = some (nI (bes P E g i j)) := by
  have hb := hV.bd
  exact lp_be hV hW hi hj FU 1 (Nat.le_refl 1) (by omega) (by show _ < 2000; omega)
theorem timesOf_ok {P E g i j h : Nat} (hV : Vd P E g) {bPo bTb : Nat → Int32} (hW : PW P g bPo) (hT : TB P E g bTb) (hi : i < E) (hj : j < E) (hh : h < E) : f_X5_timesOf (nI P) (nI E) bPo bTb (nI i) (nI j) (nI h) = some (tim P E g i j h) := by
  have hb := hV.bd
  have ho := opp_lt (P := P) hb.2.2.1 i
  unfold f_X5_timesOf
  rw [q_at, Option.bind_some, if_pos (inb_t (by omega) (by omega)), opposite5_ok hV hW hi, Option.bind_some, nI_clamp (by omega), hT i j h hi hj hh, q_pred (by omega), q_div (by omega) (by omega) (by omega)]
  unfold tim
  by_cases he : opp P E i = j
  · rw [if_pos (by rw [he]), if_neg (q_ne0 (by omega) (by omega)), if_pos he]
  · rw [if_neg (fun w => he ((q_eq (by omega) (by omega)).mp w).symm), if_neg he]
set_option maxRecDepth 4000 in
theorem op_told {zp : Int32} {ze : Int32} {zf : Int32} {zg : Int32} {zn : Int32} {aG : Nat → Int32} {aW : Nat → Int32} {aR : Nat → Int32} {aN : Nat → Int32} {aF : Nat → Int32} {lC : Nat → Int64} {lS : Nat → Int64} {lP : Nat → Int64} {lX : Nat → Int64} {ztc : Int32} {aTs : Nat → Int32} {aTn : Nat → Int32} {zoc : Int32} {aOs : Nat → Int32} {aOn : Nat → Int32} {aTp : Nat → Int32} {zln : Int32} {zpl : Int32} {zfa : Int32} {aSz : Nat → Int32} {zit : Int32} {zip : Int32} {zic : Int32} {zig : Int32} {M : Nat → Nat → Int64} {yp : Int32} {ye : Int32} {yg : Int32} {bPo : Nat → Int32} {bTb : Nat → Int32} {wSh : Nat → Int64} {wTe : Nat → Int64} {wNx : Nat → Int64} {bOs : Nat → Int32} {bOn : Nat → Int32} {yop : Int32} {bSo : Nat → Int32} {bNu : Nat → Int32} {ytr : Int32} {yiw : Int32} {wMa : Nat → Int64} {wPr : Nat → Int64} {bTp : Nat → Int32} {yln : Int32} {ypl : Int32} {yfa : Int32} {wLi : Nat → Int64} {bSi : Nat → Int32} {yhp : Int32} {yhe : Int32} {yhg : Int32} {wHs : Nat → Int64} {yhi : Int32} (h : Rel zp ze zf zg zn aG aW aR aN aF lC lS lP lX ztc aTs aTn zoc aOs aOn aTp zln zpl zfa aSz zit zip zic zig M yp ye yg bPo bTb wSh wTe wNx bOs bOn yop bSo bNu ytr yiw wMa wPr bTp yln ypl yfa wLi bSi yhp yhe yhg wHs yhi) (v1 : Int32) : ∃ z1 z2, f_X4_told zp ze zf zg zn v1 = some z1 ∧ f_X5_told yp ye yg v1 = some z2 ∧ z1 = z2 ∧ Rel zp ze zf zg zn aG aW aR aN aF lC lS lP lX ztc aTs aTn zoc aOs aOn aTp zln zpl zfa aSz zit zip zic zig M yp ye yg bPo bTb wSh wTe wNx bOs bOn yop bSo bNu ytr yiw wMa wPr bTp yln ypl yfa wLi bSi yhp yhe yhg wHs yhi := by
  obtain ⟨hK, hS, hT, hP, hL, hI⟩ := h
  obtain ⟨P, E, g, hV, ⟨rfl, rfl, rfl, rfl, rfl⟩, hG, hW, hRa, hN, hF, hC, ⟨rfl, rfl, rfl⟩, hPo, hTb⟩ := hK
  have hK : RelK (nI P) (nI E) (nI ((P - 1) / E)) (nI g) (nI (gens P).length) aG aW aR aN aF lC (nI P) (nI E) (nI g) bPo bTb := ⟨P, E, g, hV, ⟨rfl, rfl, rfl, rfl, rfl⟩, hG, hW, hRa, hN, hF, hC, ⟨rfl, rfl, rfl⟩, hPo, hTb⟩
  have hb := hV.bd
  unfold f_X4_told f_X5_told
  by_cases h0 : v1 = 0
  · rw [if_pos h0, if_pos h0]; exact ⟨_, _, rfl, rfl, rfl, hK, hS, hT, hP, hL, hI⟩
  rw [if_neg h0, if_neg h0]
  by_cases h1 : v1 = 1
  · rw [if_pos h1, if_pos h1]; exact ⟨_, _, rfl, rfl, rfl, hK, hS, hT, hP, hL, hI⟩
  rw [if_neg h1, if_neg h1]
  by_cases h2 : v1 = 2
  · rw [if_pos h2, if_pos h2, if_neg (q_ne0 (by omega) (by omega)), q_pred (by omega), q_div (by omega) (by omega) (by omega)]
    exact ⟨_, _, rfl, rfl, rfl, hK, hS, hT, hP, hL, hI⟩
  rw [if_neg h2, if_neg h2]
  by_cases h3 : v1 = 3
  · rw [if_pos h3, if_pos h3]; exact ⟨_, _, rfl, rfl, rfl, hK, hS, hT, hP, hL, hI⟩
  rw [if_neg h3, if_neg h3]
  by_cases h4 : v1 = 4
  · rw [if_pos h4, if_pos h4, gens5 P hV.1]; exact ⟨_, _, rfl, rfl, rfl, hK, hS, hT, hP, hL, hI⟩
  rw [if_neg h4, if_neg h4]
  exact ⟨_, _, rfl, rfl, rfl, hK, hS, hT, hP, hL, hI⟩
set_option maxRecDepth 4000 in
theorem op_power {zp : Int32} {ze : Int32} {zf : Int32} {zg : Int32} {zn : Int32} {aG : Nat → Int32} {aW : Nat → Int32} {aR : Nat → Int32} {aN : Nat → Int32} {aF : Nat → Int32} {lC : Nat → Int64} {lS : Nat → Int64} {lP : Nat → Int64} {lX : Nat → Int64} {ztc : Int32} {aTs : Nat → Int32} {aTn : Nat → Int32} {zoc : Int32} {aOs : Nat → Int32} {aOn : Nat → Int32} {aTp : Nat → Int32} {zln : Int32} {zpl : Int32} {zfa : Int32} {aSz : Nat → Int32} {zit : Int32} {zip : Int32} {zic : Int32} {zig : Int32} {M : Nat → Nat → Int64} {yp : Int32} {ye : Int32} {yg : Int32} {bPo : Nat → Int32} {bTb : Nat → Int32} {wSh : Nat → Int64} {wTe : Nat → Int64} {wNx : Nat → Int64} {bOs : Nat → Int32} {bOn : Nat → Int32} {yop : Int32} {bSo : Nat → Int32} {bNu : Nat → Int32} {ytr : Int32} {yiw : Int32} {wMa : Nat → Int64} {wPr : Nat → Int64} {bTp : Nat → Int32} {yln : Int32} {ypl : Int32} {yfa : Int32} {wLi : Nat → Int64} {bSi : Nat → Int32} {yhp : Int32} {yhe : Int32} {yhg : Int32} {wHs : Nat → Int64} {yhi : Int32} (h : Rel zp ze zf zg zn aG aW aR aN aF lC lS lP lX ztc aTs aTn zoc aOs aOn aTp zln zpl zfa aSz zit zip zic zig M yp ye yg bPo bTb wSh wTe wNx bOs bOn yop bSo bNu ytr yiw wMa wPr bTp yln ypl yfa wLi bSi yhp yhe yhg wHs yhi) (v1 : Int32) : ∃ z1 z2, f_X4_power zp aW v1 = some z1 ∧ f_X5_power yp bPo v1 = some z2 ∧ z1 = z2 ∧ Rel zp ze zf zg zn aG aW aR aN aF lC lS lP lX ztc aTs aTn zoc aOs aOn aTp zln zpl zfa aSz zit zip zic zig M yp ye yg bPo bTb wSh wTe wNx bOs bOn yop bSo bNu ytr yiw wMa wPr bTp yln ypl yfa wLi bSi yhp yhe yhg wHs yhi := by
  obtain ⟨hK, hS, hT, hP, hL, hI⟩ := h
  obtain ⟨P, E, g, hV, ⟨rfl, rfl, rfl, rfl, rfl⟩, hG, hW, hRa, hN, hF, hC, ⟨rfl, rfl, rfl⟩, hPo, hTb⟩ := hK
  have hK : RelK (nI P) (nI E) (nI ((P - 1) / E)) (nI g) (nI (gens P).length) aG aW aR aN aF lC (nI P) (nI E) (nI g) bPo bTb := ⟨P, E, g, hV, ⟨rfl, rfl, rfl, rfl, rfl⟩, hG, hW, hRa, hN, hF, hC, ⟨rfl, rfl, rfl⟩, hPo, hTb⟩
  have hb := hV.bd
  unfold f_X4_power f_X5_power
  rw [pu_num4 (by omega), pu_num5 (by omega) (by omega), Option.bind_some, Option.bind_some, pu_if, pu_if]
  by_cases hn : numb v1 P = true
  · obtain ⟨x, h1, h2, rfl⟩ := numb_ex (by omega) hn
    rw [if_pos hn, if_pos hn, if_pos (inb_t (by omega) (by omega)), if_pos (inb_t (by omega) (by omega)), nI_clamp (by omega), hW x h1 h2, hPo x h1 h2]
    exact ⟨_, _, rfl, rfl, rfl, hK, hS, hT, hP, hL, hI⟩
  · rw [if_neg hn, if_neg hn]
    exact ⟨_, _, rfl, rfl, rfl, hK, hS, hT, hP, hL, hI⟩
set_option maxRecDepth 4000 in
theorem op_classOf {zp : Int32} {ze : Int32} {zf : Int32} {zg : Int32} {zn : Int32} {aG : Nat → Int32} {aW : Nat → Int32} {aR : Nat → Int32} {aN : Nat → Int32} {aF : Nat → Int32} {lC : Nat → Int64} {lS : Nat → Int64} {lP : Nat → Int64} {lX : Nat → Int64} {ztc : Int32} {aTs : Nat → Int32} {aTn : Nat → Int32} {zoc : Int32} {aOs : Nat → Int32} {aOn : Nat → Int32} {aTp : Nat → Int32} {zln : Int32} {zpl : Int32} {zfa : Int32} {aSz : Nat → Int32} {zit : Int32} {zip : Int32} {zic : Int32} {zig : Int32} {M : Nat → Nat → Int64} {yp : Int32} {ye : Int32} {yg : Int32} {bPo : Nat → Int32} {bTb : Nat → Int32} {wSh : Nat → Int64} {wTe : Nat → Int64} {wNx : Nat → Int64} {bOs : Nat → Int32} {bOn : Nat → Int32} {yop : Int32} {bSo : Nat → Int32} {bNu : Nat → Int32} {ytr : Int32} {yiw : Int32} {wMa : Nat → Int64} {wPr : Nat → Int64} {bTp : Nat → Int32} {yln : Int32} {ypl : Int32} {yfa : Int32} {wLi : Nat → Int64} {bSi : Nat → Int32} {yhp : Int32} {yhe : Int32} {yhg : Int32} {wHs : Nat → Int64} {yhi : Int32} (h : Rel zp ze zf zg zn aG aW aR aN aF lC lS lP lX ztc aTs aTn zoc aOs aOn aTp zln zpl zfa aSz zit zip zic zig M yp ye yg bPo bTb wSh wTe wNx bOs bOn yop bSo bNu ytr yiw wMa wPr bTp yln ypl yfa wLi bSi yhp yhe yhg wHs yhi) (v1 : Int32) : ∃ z1 z2, f_X4_classOf zp ze aW v1 = some z1 ∧ f_X5_classOf yp ye bPo v1 = some z2 ∧ z1 = z2 ∧ Rel zp ze zf zg zn aG aW aR aN aF lC lS lP lX ztc aTs aTn zoc aOs aOn aTp zln zpl zfa aSz zit zip zic zig M yp ye yg bPo bTb wSh wTe wNx bOs bOn yop bSo bNu ytr yiw wMa wPr bTp yln ypl yfa wLi bSi yhp yhe yhg wHs yhi := by
  obtain ⟨hK, hS, hT, hP, hL, hI⟩ := h
  obtain ⟨P, E, g, hV, ⟨rfl, rfl, rfl, rfl, rfl⟩, hG, hW, hRa, hN, hF, hC, ⟨rfl, rfl, rfl⟩, hPo, hTb⟩ := hK
  have hK : RelK (nI P) (nI E) (nI ((P - 1) / E)) (nI g) (nI (gens P).length) aG aW aR aN aF lC (nI P) (nI E) (nI g) bPo bTb := ⟨P, E, g, hV, ⟨rfl, rfl, rfl, rfl, rfl⟩, hG, hW, hRa, hN, hF, hC, ⟨rfl, rfl, rfl⟩, hPo, hTb⟩
  have hb := hV.bd
  unfold f_X4_classOf f_X5_classOf
  rw [pu_num4 (by omega), pu_num5 (by omega) (by omega), Option.bind_some, Option.bind_some, pu_if, pu_if]
  by_cases hn : numb v1 P = true
  · obtain ⟨x, h1, h2, rfl⟩ := numb_ex (by omega) hn
    have h3 := dl_x hV.1 hV.2.2.2.2 h1 h2
    rw [if_pos hn, if_pos hn, if_pos (inb_t (by omega) (by omega)), if_neg (q_ne0 (by omega) (by omega)), classAt_ok hV hPo h1 h2, nI_clamp (by omega), hW x h1 h2, q_rem (by omega) (by omega) (by omega)]
    exact ⟨_, _, rfl, rfl, rfl, hK, hS, hT, hP, hL, hI⟩
  · rw [if_neg hn, if_neg hn]
    exact ⟨_, _, rfl, rfl, rfl, hK, hS, hT, hP, hL, hI⟩
set_option maxRecDepth 4000 in
theorem op_opposite {zp : Int32} {ze : Int32} {zf : Int32} {zg : Int32} {zn : Int32} {aG : Nat → Int32} {aW : Nat → Int32} {aR : Nat → Int32} {aN : Nat → Int32} {aF : Nat → Int32} {lC : Nat → Int64} {lS : Nat → Int64} {lP : Nat → Int64} {lX : Nat → Int64} {ztc : Int32} {aTs : Nat → Int32} {aTn : Nat → Int32} {zoc : Int32} {aOs : Nat → Int32} {aOn : Nat → Int32} {aTp : Nat → Int32} {zln : Int32} {zpl : Int32} {zfa : Int32} {aSz : Nat → Int32} {zit : Int32} {zip : Int32} {zic : Int32} {zig : Int32} {M : Nat → Nat → Int64} {yp : Int32} {ye : Int32} {yg : Int32} {bPo : Nat → Int32} {bTb : Nat → Int32} {wSh : Nat → Int64} {wTe : Nat → Int64} {wNx : Nat → Int64} {bOs : Nat → Int32} {bOn : Nat → Int32} {yop : Int32} {bSo : Nat → Int32} {bNu : Nat → Int32} {ytr : Int32} {yiw : Int32} {wMa : Nat → Int64} {wPr : Nat → Int64} {bTp : Nat → Int32} {yln : Int32} {ypl : Int32} {yfa : Int32} {wLi : Nat → Int64} {bSi : Nat → Int32} {yhp : Int32} {yhe : Int32} {yhg : Int32} {wHs : Nat → Int64} {yhi : Int32} (h : Rel zp ze zf zg zn aG aW aR aN aF lC lS lP lX ztc aTs aTn zoc aOs aOn aTp zln zpl zfa aSz zit zip zic zig M yp ye yg bPo bTb wSh wTe wNx bOs bOn yop bSo bNu ytr yiw wMa wPr bTp yln ypl yfa wLi bSi yhp yhe yhg wHs yhi) (v1 : Int32) : ∃ z1 z2, f_X4_opposite zp ze v1 = some z1 ∧ f_X5_opposite yp ye bPo v1 = some z2 ∧ z1 = z2 ∧ Rel zp ze zf zg zn aG aW aR aN aF lC lS lP lX ztc aTs aTn zoc aOs aOn aTp zln zpl zfa aSz zit zip zic zig M yp ye yg bPo bTb wSh wTe wNx bOs bOn yop bSo bNu ytr yiw wMa wPr bTp yln ypl yfa wLi bSi yhp yhe yhg wHs yhi := by
  obtain ⟨hK, hS, hT, hP, hL, hI⟩ := h
  obtain ⟨P, E, g, hV, ⟨rfl, rfl, rfl, rfl, rfl⟩, hG, hW, hRa, hN, hF, hC, ⟨rfl, rfl, rfl⟩, hPo, hTb⟩ := hK
  have hK : RelK (nI P) (nI E) (nI ((P - 1) / E)) (nI g) (nI (gens P).length) aG aW aR aN aF lC (nI P) (nI E) (nI g) bPo bTb := ⟨P, E, g, hV, ⟨rfl, rfl, rfl, rfl, rfl⟩, hG, hW, hRa, hN, hF, hC, ⟨rfl, rfl, rfl⟩, hPo, hTb⟩
  have hb := hV.bd
  unfold f_X4_opposite f_X5_opposite
  rw [pu_cls4 (by omega), pu_cls5 (by omega) (by omega), Option.bind_some, Option.bind_some, pu_if, pu_if]
  by_cases hn : inb v1 E = true
  · obtain ⟨i, hi, rfl⟩ := inb_ex hn (by omega)
    rw [if_pos hn, if_pos hn, oppositeOf_ok (by omega) (by omega) (by omega) (by omega) (by omega), opposite5_ok hV hPo hi]
    exact ⟨_, _, rfl, rfl, rfl, hK, hS, hT, hP, hL, hI⟩
  · rw [if_neg hn, if_neg hn]
    exact ⟨_, _, rfl, rfl, rfl, hK, hS, hT, hP, hL, hI⟩
set_option maxRecDepth 4000 in
theorem op_beside {zp : Int32} {ze : Int32} {zf : Int32} {zg : Int32} {zn : Int32} {aG : Nat → Int32} {aW : Nat → Int32} {aR : Nat → Int32} {aN : Nat → Int32} {aF : Nat → Int32} {lC : Nat → Int64} {lS : Nat → Int64} {lP : Nat → Int64} {lX : Nat → Int64} {ztc : Int32} {aTs : Nat → Int32} {aTn : Nat → Int32} {zoc : Int32} {aOs : Nat → Int32} {aOn : Nat → Int32} {aTp : Nat → Int32} {zln : Int32} {zpl : Int32} {zfa : Int32} {aSz : Nat → Int32} {zit : Int32} {zip : Int32} {zic : Int32} {zig : Int32} {M : Nat → Nat → Int64} {yp : Int32} {ye : Int32} {yg : Int32} {bPo : Nat → Int32} {bTb : Nat → Int32} {wSh : Nat → Int64} {wTe : Nat → Int64} {wNx : Nat → Int64} {bOs : Nat → Int32} {bOn : Nat → Int32} {yop : Int32} {bSo : Nat → Int32} {bNu : Nat → Int32} {ytr : Int32} {yiw : Int32} {wMa : Nat → Int64} {wPr : Nat → Int64} {bTp : Nat → Int32} {yln : Int32} {ypl : Int32} {yfa : Int32} {wLi : Nat → Int64} {bSi : Nat → Int32} {yhp : Int32} {yhe : Int32} {yhg : Int32} {wHs : Nat → Int64} {yhi : Int32} (h : Rel zp ze zf zg zn aG aW aR aN aF lC lS lP lX ztc aTs aTn zoc aOs aOn aTp zln zpl zfa aSz zit zip zic zig M yp ye yg bPo bTb wSh wTe wNx bOs bOn yop bSo bNu ytr yiw wMa wPr bTp yln ypl yfa wLi bSi yhp yhe yhg wHs yhi) (v1 : Int32) (v2 : Int32) : ∃ z1 z2, f_X4_beside ze aN v1 v2 = some z1 ∧ f_X5_beside yp ye bPo v1 v2 = some z2 ∧ z1 = z2 ∧ Rel zp ze zf zg zn aG aW aR aN aF lC lS lP lX ztc aTs aTn zoc aOs aOn aTp zln zpl zfa aSz zit zip zic zig M yp ye yg bPo bTb wSh wTe wNx bOs bOn yop bSo bNu ytr yiw wMa wPr bTp yln ypl yfa wLi bSi yhp yhe yhg wHs yhi := by
  obtain ⟨hK, hS, hT, hP, hL, hI⟩ := h
  obtain ⟨P, E, g, hV, ⟨rfl, rfl, rfl, rfl, rfl⟩, hG, hW, hRa, hN, hF, hC, ⟨rfl, rfl, rfl⟩, hPo, hTb⟩ := hK
  have hK : RelK (nI P) (nI E) (nI ((P - 1) / E)) (nI g) (nI (gens P).length) aG aW aR aN aF lC (nI P) (nI E) (nI g) bPo bTb := ⟨P, E, g, hV, ⟨rfl, rfl, rfl, rfl, rfl⟩, hG, hW, hRa, hN, hF, hC, ⟨rfl, rfl, rfl⟩, hPo, hTb⟩
  have hb := hV.bd
  unfold f_X4_beside f_X5_beside
  rw [pu_cls4 (by omega), pu_cls5 (by omega) (by omega), Option.bind_some, Option.bind_some, pu_if, pu_if]
  by_cases hn : inb v1 E = true
  · obtain ⟨i, hi, rfl⟩ := inb_ex hn (by omega)
    rw [if_pos hn, if_pos hn, pu_cls4 (by omega), pu_cls5 (by omega) (by omega), Option.bind_some, Option.bind_some, pu_if, pu_if]
    by_cases hm : inb v2 E = true
    · obtain ⟨j, hj, rfl⟩ := inb_ex hm (by omega)
      rw [if_pos hm, if_pos hm, q_ix12, if_pos (inb_t (by omega) (by omega)), nI_clamp (by omega), hN i j hi hj, besideOf_ok hV hPo (by omega) (by omega)]
      exact ⟨_, _, rfl, rfl, rfl, hK, hS, hT, hP, hL, hI⟩
    · rw [if_neg hm, if_neg hm]
      exact ⟨_, _, rfl, rfl, rfl, hK, hS, hT, hP, hL, hI⟩
  · rw [if_neg hn, if_neg hn]
    exact ⟨_, _, rfl, rfl, rfl, hK, hS, hT, hP, hL, hI⟩
set_option maxRecDepth 4000 in
theorem op_times {zp : Int32} {ze : Int32} {zf : Int32} {zg : Int32} {zn : Int32} {aG : Nat → Int32} {aW : Nat → Int32} {aR : Nat → Int32} {aN : Nat → Int32} {aF : Nat → Int32} {lC : Nat → Int64} {lS : Nat → Int64} {lP : Nat → Int64} {lX : Nat → Int64} {ztc : Int32} {aTs : Nat → Int32} {aTn : Nat → Int32} {zoc : Int32} {aOs : Nat → Int32} {aOn : Nat → Int32} {aTp : Nat → Int32} {zln : Int32} {zpl : Int32} {zfa : Int32} {aSz : Nat → Int32} {zit : Int32} {zip : Int32} {zic : Int32} {zig : Int32} {M : Nat → Nat → Int64} {yp : Int32} {ye : Int32} {yg : Int32} {bPo : Nat → Int32} {bTb : Nat → Int32} {wSh : Nat → Int64} {wTe : Nat → Int64} {wNx : Nat → Int64} {bOs : Nat → Int32} {bOn : Nat → Int32} {yop : Int32} {bSo : Nat → Int32} {bNu : Nat → Int32} {ytr : Int32} {yiw : Int32} {wMa : Nat → Int64} {wPr : Nat → Int64} {bTp : Nat → Int32} {yln : Int32} {ypl : Int32} {yfa : Int32} {wLi : Nat → Int64} {bSi : Nat → Int32} {yhp : Int32} {yhe : Int32} {yhg : Int32} {wHs : Nat → Int64} {yhi : Int32} (h : Rel zp ze zf zg zn aG aW aR aN aF lC lS lP lX ztc aTs aTn zoc aOs aOn aTp zln zpl zfa aSz zit zip zic zig M yp ye yg bPo bTb wSh wTe wNx bOs bOn yop bSo bNu ytr yiw wMa wPr bTp yln ypl yfa wLi bSi yhp yhe yhg wHs yhi) (v1 : Int32) (v2 : Int32) (v3 : Int32) : ∃ z1 z2, f_X4_times ze aF v1 v2 v3 = some z1 ∧ f_X5_times yp ye bPo bTb v1 v2 v3 = some z2 ∧ z1 = z2 ∧ Rel zp ze zf zg zn aG aW aR aN aF lC lS lP lX ztc aTs aTn zoc aOs aOn aTp zln zpl zfa aSz zit zip zic zig M yp ye yg bPo bTb wSh wTe wNx bOs bOn yop bSo bNu ytr yiw wMa wPr bTp yln ypl yfa wLi bSi yhp yhe yhg wHs yhi := by
  obtain ⟨hK, hS, hT, hP, hL, hI⟩ := h
  obtain ⟨P, E, g, hV, ⟨rfl, rfl, rfl, rfl, rfl⟩, hG, hW, hRa, hN, hF, hC, ⟨rfl, rfl, rfl⟩, hPo, hTb⟩ := hK
  have hK : RelK (nI P) (nI E) (nI ((P - 1) / E)) (nI g) (nI (gens P).length) aG aW aR aN aF lC (nI P) (nI E) (nI g) bPo bTb := ⟨P, E, g, hV, ⟨rfl, rfl, rfl, rfl, rfl⟩, hG, hW, hRa, hN, hF, hC, ⟨rfl, rfl, rfl⟩, hPo, hTb⟩
  have hb := hV.bd
  unfold f_X4_times f_X5_times
  rw [pu_cls4 (by omega), pu_cls5 (by omega) (by omega), Option.bind_some, Option.bind_some, pu_if, pu_if]
  by_cases hn : inb v1 E = true
  · obtain ⟨i, hi, rfl⟩ := inb_ex hn (by omega)
    rw [if_pos hn, if_pos hn, pu_cls4 (by omega), pu_cls5 (by omega) (by omega), Option.bind_some, Option.bind_some, pu_if, pu_if]
    by_cases hm : inb v2 E = true
    · obtain ⟨j, hj, rfl⟩ := inb_ex hm (by omega)
      rw [if_pos hm, if_pos hm, pu_cls4 (by omega), pu_cls5 (by omega) (by omega), Option.bind_some, Option.bind_some, pu_if, pu_if]
      by_cases ho : inb v3 E = true
      · obtain ⟨k, hk, rfl⟩ := inb_ex ho (by omega)
        rw [if_pos ho, if_pos ho, factorIndex_ok, Option.bind_some, if_pos (inb_t (by omega) (by omega)), nI_clamp (by omega), hF i j k hi hj hk, timesOf_ok hV hPo hTb hi hj hk]
        exact ⟨_, _, rfl, rfl, rfl, hK, hS, hT, hP, hL, hI⟩
      · rw [if_neg ho, if_neg ho]
        exact ⟨_, _, rfl, rfl, rfl, hK, hS, hT, hP, hL, hI⟩
    · rw [if_neg hm, if_neg hm]
      exact ⟨_, _, rfl, rfl, rfl, hK, hS, hT, hP, hL, hI⟩
  · rw [if_neg hn, if_neg hn]
    exact ⟨_, _, rfl, rfl, rfl, hK, hS, hT, hP, hL, hI⟩
set_option maxRecDepth 4000 in
theorem op_meets {zp : Int32} {ze : Int32} {zf : Int32} {zg : Int32} {zn : Int32} {aG : Nat → Int32} {aW : Nat → Int32} {aR : Nat → Int32} {aN : Nat → Int32} {aF : Nat → Int32} {lC : Nat → Int64} {lS : Nat → Int64} {lP : Nat → Int64} {lX : Nat → Int64} {ztc : Int32} {aTs : Nat → Int32} {aTn : Nat → Int32} {zoc : Int32} {aOs : Nat → Int32} {aOn : Nat → Int32} {aTp : Nat → Int32} {zln : Int32} {zpl : Int32} {zfa : Int32} {aSz : Nat → Int32} {zit : Int32} {zip : Int32} {zic : Int32} {zig : Int32} {M : Nat → Nat → Int64} {yp : Int32} {ye : Int32} {yg : Int32} {bPo : Nat → Int32} {bTb : Nat → Int32} {wSh : Nat → Int64} {wTe : Nat → Int64} {wNx : Nat → Int64} {bOs : Nat → Int32} {bOn : Nat → Int32} {yop : Int32} {bSo : Nat → Int32} {bNu : Nat → Int32} {ytr : Int32} {yiw : Int32} {wMa : Nat → Int64} {wPr : Nat → Int64} {bTp : Nat → Int32} {yln : Int32} {ypl : Int32} {yfa : Int32} {wLi : Nat → Int64} {bSi : Nat → Int32} {yhp : Int32} {yhe : Int32} {yhg : Int32} {wHs : Nat → Int64} {yhi : Int32} (h : Rel zp ze zf zg zn aG aW aR aN aF lC lS lP lX ztc aTs aTn zoc aOs aOn aTp zln zpl zfa aSz zit zip zic zig M yp ye yg bPo bTb wSh wTe wNx bOs bOn yop bSo bNu ytr yiw wMa wPr bTp yln ypl yfa wLi bSi yhp yhe yhg wHs yhi) (v1 : Int32) (v2 : Int32) (v3 : Int32) : ∃ z1 z2, f_X4_meets zp ze zf aF v1 v2 v3 = some z1 ∧ f_X5_meets ye bTb v1 v2 v3 = some z2 ∧ z1 = z2 ∧ Rel zp ze zf zg zn aG aW aR aN aF lC lS lP lX ztc aTs aTn zoc aOs aOn aTp zln zpl zfa aSz zit zip zic zig M yp ye yg bPo bTb wSh wTe wNx bOs bOn yop bSo bNu ytr yiw wMa wPr bTp yln ypl yfa wLi bSi yhp yhe yhg wHs yhi := by
  obtain ⟨hK, hS, hT, hP, hL, hI⟩ := h
  obtain ⟨P, E, g, hV, ⟨rfl, rfl, rfl, rfl, rfl⟩, hG, hW, hRa, hN, hF, hC, ⟨rfl, rfl, rfl⟩, hPo, hTb⟩ := hK
  have hK : RelK (nI P) (nI E) (nI ((P - 1) / E)) (nI g) (nI (gens P).length) aG aW aR aN aF lC (nI P) (nI E) (nI g) bPo bTb := ⟨P, E, g, hV, ⟨rfl, rfl, rfl, rfl, rfl⟩, hG, hW, hRa, hN, hF, hC, ⟨rfl, rfl, rfl⟩, hPo, hTb⟩
  have hb := hV.bd
  unfold f_X4_meets f_X5_meets
  rw [pu_cls4 (by omega), pu_cls5 (by omega) (by omega), Option.bind_some, Option.bind_some, pu_if, pu_if]
  by_cases hn : inb v1 E = true
  · obtain ⟨i, hi, rfl⟩ := inb_ex hn (by omega)
    rw [if_pos hn, if_pos hn, pu_cls4 (by omega), pu_cls5 (by omega) (by omega), Option.bind_some, Option.bind_some, pu_if, pu_if]
    by_cases hm : inb v2 E = true
    · obtain ⟨j, hj, rfl⟩ := inb_ex hm (by omega)
      rw [if_pos hm, if_pos hm, pu_cls4 (by omega), pu_cls5 (by omega) (by omega), Option.bind_some, Option.bind_some, pu_if, pu_if]
      by_cases ho : inb v3 E = true
      · obtain ⟨k, hk, rfl⟩ := inb_ex ho (by omega)
        have hol := opp_lt (P := P) hb.2.2.1 i
        rw [if_pos ho, if_pos ho, factorIndex_ok, Option.bind_some, if_pos (inb_t (by omega) (by omega)), nI_clamp (by omega), hF i j k hi hj hk, oppositeOf_ok (by omega) (by omega) (by omega) (by omega) (by omega), Option.bind_some, q_at, Option.bind_some, if_pos (inb_t (by omega) (by omega)), nI_clamp (by omega), hTb i j k hi hj hk]
        by_cases he : opp P E i = j
        · rw [if_pos (by rw [he])]
          refine ⟨_, _, rfl, rfl, ?_, hK, hS, hT, hP, hL, hI⟩
          unfold tim
          rw [if_pos he, Int32.sub_add_cancel]
        · rw [if_neg (fun w => he ((q_eq (by omega) (by omega)).mp w))]
          refine ⟨_, _, rfl, rfl, ?_, hK, hS, hT, hP, hL, hI⟩
          unfold tim
          rw [if_neg he, Int32.sub_zero]
      · rw [if_neg ho, if_neg ho]
        exact ⟨_, _, rfl, rfl, rfl, hK, hS, hT, hP, hL, hI⟩
    · rw [if_neg hm, if_neg hm]
      exact ⟨_, _, rfl, rfl, rfl, hK, hS, hT, hP, hL, hI⟩
  · rw [if_neg hn, if_neg hn]
    exact ⟨_, _, rfl, rfl, rfl, hK, hS, hT, hP, hL, hI⟩

