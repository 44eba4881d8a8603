/-! CALLS of the prime part with loops; field, use, image, undo, the beginning -/
theorem gensTo_mono (P : Nat) {x y : Nat} (h : x ≤ y) : (gensTo P x).length ≤ (gensTo P y).length := by
  induction y with
  | zero => rw [show x = 0 by omega]; exact Nat.le_refl _
  | succ y ih =>
    rcases Nat.lt_or_ge y x with q | q
    · rw [show x = y + 1 by omega]; exact Nat.le_refl _
    · have h1 := ih q
      rw [gensTo_s, List.length_append]
      omega
theorem lp_gen0 {P : Nat} (hP : P ∈ prs) {v : Int32} (hv : ∀ k, k < (gens P).length → v ≠ nI k) : ∀ (fu x : Nat), 1 ≤ x → x ≤ P → P - x < fu → f_X5_generator_L4 (nI P) v fu (nI (gensTo P x).length) (nI x) = some (-1) := by
  have hb := prs_bd hP
  intro fu
  induction fu with
  | zero => intro x h0 h1 h2; exact absurd h2 (Nat.not_lt_zero _)
  | succ fu ih =>
    intro x h0 h1 h2
    rw [f_X5_generator_L4]
    rcases Nat.lt_or_ge x P with q | q
    · have h3 := ih (x + 1) (by omega) (by omega) (by omega)
      have hs := gensTo_s P x
      rw [if_neg (q_nle (by omega) (by omega) q), gen5 P hP x q h0, Option.bind_some, pu_if]
      simp only [q_s]
      by_cases hg : isG P x = true
      · rw [if_pos hg] at hs
        have hlen : (gensTo P (x + 1)).length = (gensTo P x).length + 1 := by rw [hs]; simp
        have hm := gensTo_mono P (show x + 1 ≤ P by omega)
        have hm2 : (gensTo P x).length < (gens P).length := by show _ < (gensTo P P).length; omega
        rw [if_pos hg, if_neg (fun w => hv _ hm2 w.symm), ← hlen]
        exact h3
      · rw [if_neg hg, List.append_nil] at hs
        rw [if_neg hg, ← hs]
        exact h3
    · rw [if_pos (q_le (by omega) (by omega) q)]
set_option maxRecDepth 4000 in
theorem op_generator {zp : Int32} {ze : Int32} {zf : Int32} {zg : Int32} {zn : Int32} {aG : Nat → Int32} {aW : Nat → Int32} {aR : Nat → Int32} {aN : Nat → Int32} {aF : Nat → Int32} {lC : Nat → Int64} {lS : Nat → Int64} {lP : Nat → Int64} {lX : Nat → Int64} {ztc : Int32} {aTs : Nat → Int32} {aTn : Nat → Int32} {zoc : Int32} {aOs : Nat → Int32} {aOn : Nat → Int32} {aTp : Nat → Int32} {zln : Int32} {zpl : Int32} {zfa : Int32} {aSz : Nat → Int32} {zit : Int32} {zip : Int32} {zic : Int32} {zig : Int32} {M : Nat → Nat → Int64} {yp : Int32} {ye : Int32} {yg : Int32} {bPo : Nat → Int32} {bTb : Nat → Int32} {wSh : Nat → Int64} {wTe : Nat → Int64} {wNx : Nat → Int64} {bOs : Nat → Int32} {bOn : Nat → Int32} {yop : Int32} {bSo : Nat → Int32} {bNu : Nat → Int32} {ytr : Int32} {yiw : Int32} {wMa : Nat → Int64} {wPr : Nat → Int64} {bTp : Nat → Int32} {yln : Int32} {ypl : Int32} {yfa : Int32} {wLi : Nat → Int64} {bSi : Nat → Int32} {yhp : Int32} {yhe : Int32} {yhg : Int32} {wHs : Nat → Int64} {yhi : Int32} (h : Rel zp ze zf zg zn aG aW aR aN aF lC lS lP lX ztc aTs aTn zoc aOs aOn aTp zln zpl zfa aSz zit zip zic zig M yp ye yg bPo bTb wSh wTe wNx bOs bOn yop bSo bNu ytr yiw wMa wPr bTp yln ypl yfa wLi bSi yhp yhe yhg wHs yhi) (v1 : Int32) : ∃ z1 z2, f_X4_generator zn aG v1 = some z1 ∧ f_X5_generator yp v1 = some z2 ∧ z1 = z2 ∧ Rel zp ze zf zg zn aG aW aR aN aF lC lS lP lX ztc aTs aTn zoc aOs aOn aTp zln zpl zfa aSz zit zip zic zig M yp ye yg bPo bTb wSh wTe wNx bOs bOn yop bSo bNu ytr yiw wMa wPr bTp yln ypl yfa wLi bSi yhp yhe yhg wHs yhi := by
  obtain ⟨hK, hS, hT, hP, hL, hI⟩ := h
  obtain ⟨P, E, g, hV, ⟨rfl, rfl, rfl, rfl, rfl⟩, hG, hW, hRa, hN, hF, hC, ⟨rfl, rfl, rfl⟩, hPo, hTb⟩ := hK
  have hK : RelK (nI P) (nI E) (nI ((P - 1) / E)) (nI g) (nI (gens P).length) aG aW aR aN aF lC (nI P) (nI E) (nI g) bPo bTb := ⟨P, E, g, hV, ⟨rfl, rfl, rfl, rfl, rfl⟩, hG, hW, hRa, hN, hF, hC, ⟨rfl, rfl, rfl⟩, hPo, hTb⟩
  have hb := hV.bd
  unfold f_X4_generator
  have hlen := (gens_bd P hV.1).2.1
  by_cases hn : inb v1 (gens P).length = true
  · obtain ⟨k, hk, rfl⟩ := inb_ex hn (by omega)
    rw [if_neg (nI_pos (by omega)), if_pos (q_lt (by omega) (by omega) hk), if_pos (inb_t (by omega) (by omega)), nI_clamp (by omega), hG k hk, genth5 P hV.1 k hk]
    exact ⟨_, _, rfl, rfl, rfl, hK, hS, hT, hP, hL, hI⟩
  · have hf := (inb_f (v := v1) (n := (gens P).length) (by omega)).mp (Bool.eq_false_iff.mpr hn)
    have e2 : f_X5_generator (nI P) v1 = some (-1) := by
      have h := lp_gen0 hV.1 (v := v1) (fun k hk he => hn (by rw [he]; exact inb_t hk (by omega))) FU 1 (Nat.le_refl 1) (by omega) (by show _ < 2000; omega)
      have e : gensTo P 1 = [] := by
        rw [gensTo_s]
        have h0 : isG P 0 = false := by unfold isG; simp
        simp [h0, gensTo]
      rw [e] at h
      exact h
    rw [e2]
    by_cases h0 : v1 < 0
    · rw [if_pos h0]
      exact ⟨_, _, rfl, rfl, rfl, hK, hS, hT, hP, hL, hI⟩
    · have h1 : ¬ v1 < nI (gens P).length := by
        rcases hf with h | h
        · exact absurd h h0
        · rw [Int32.le_iff_toInt_le] at h
          rw [Int32.lt_iff_toInt_lt]
          omega
      rw [if_neg h0, if_neg h1]
      exact ⟨_, _, rfl, rfl, rfl, hK, hS, hT, hP, hL, hI⟩
set_option maxRecDepth 4000 in
theorem op_use {zp : Int32} {ze : Int32} {zf : Int32} {zg : Int32} {zn : Int32} {aG : Nat → Int32} {aW : Nat → Int32} {aR : Nat → Int32} {aN : Nat → Int32} {aF : Nat → Int32} {lC : Nat → Int64} {lS : Nat → Int64} {lP : Nat → Int64} {lX : Nat → Int64} {ztc : Int32} {aTs : Nat → Int32} {aTn : Nat → Int32} {zoc : Int32} {aOs : Nat → Int32} {aOn : Nat → Int32} {aTp : Nat → Int32} {zln : Int32} {zpl : Int32} {zfa : Int32} {aSz : Nat → Int32} {zit : Int32} {zip : Int32} {zic : Int32} {zig : Int32} {M : Nat → Nat → Int64} {yp : Int32} {ye : Int32} {yg : Int32} {bPo : Nat → Int32} {bTb : Nat → Int32} {wSh : Nat → Int64} {wTe : Nat → Int64} {wNx : Nat → Int64} {bOs : Nat → Int32} {bOn : Nat → Int32} {yop : Int32} {bSo : Nat → Int32} {bNu : Nat → Int32} {ytr : Int32} {yiw : Int32} {wMa : Nat → Int64} {wPr : Nat → Int64} {bTp : Nat → Int32} {yln : Int32} {ypl : Int32} {yfa : Int32} {wLi : Nat → Int64} {bSi : Nat → Int32} {yhp : Int32} {yhe : Int32} {yhg : Int32} {wHs : Nat → Int64} {yhi : Int32} (h : Rel zp ze zf zg zn aG aW aR aN aF lC lS lP lX ztc aTs aTn zoc aOs aOn aTp zln zpl zfa aSz zit zip zic zig M yp ye yg bPo bTb wSh wTe wNx bOs bOn yop bSo bNu ytr yiw wMa wPr bTp yln ypl yfa wLi bSi yhp yhe yhg wHs yhi) (v1 : Int32) : ∃ z1 z2, f_X4_use zp ze zf zg aW aN aF v1 = some z1 ∧ f_X5_use yp ye yg bPo bTb v1 = some z2 ∧ z1.1 = z2.1 ∧ Rel zp ze zf z1.2.1 zn aG z1.2.2.1 aR z1.2.2.2.1 z1.2.2.2.2 lC lS lP lX ztc aTs aTn zoc aOs aOn aTp zln zpl zfa aSz zit zip zic zig M yp ye z2.2.1 z2.2.2.1 z2.2.2.2 wSh wTe wNx bOs bOn yop bSo bNu ytr yiw wMa wPr bTp yln ypl yfa wLi bSi yhp yhe yhg wHs yhi := by
  obtain ⟨hK, hS, hT, hP, hL, hI⟩ := h
  obtain ⟨P, E, g, hV, ⟨rfl, rfl, rfl, rfl, rfl⟩, hG, hW, hRa, hN, hF, hC, ⟨rfl, rfl, rfl⟩, hPo, hTb⟩ := hK
  have hK : RelK (nI P) (nI E) (nI ((P - 1) / E)) (nI g) (nI (gens P).length) aG aW aR aN aF lC (nI P) (nI E) (nI g) bPo bTb := ⟨P, E, g, hV, ⟨rfl, rfl, rfl, rfl, rfl⟩, hG, hW, hRa, hN, hF, hC, ⟨rfl, rfl, rfl⟩, hPo, hTb⟩
  have hb := hV.bd
  unfold f_X4_use f_X5_use
  rw [isGen0_ok hV.1, pu_num5 (by omega) (by omega), Option.bind_some, Option.bind_some, pu_if, pu_if]
  by_cases hn : numb v1 P = true
  · obtain ⟨x, h1, h2, rfl⟩ := numb_ex (by omega) hn
    rw [if_pos hn, hn, Bool.true_and, nI_clamp (by omega), gen5 P hV.1 x h2 h1, Option.bind_some, pu_if]
    by_cases hg : isG P x = true
    · have hV2 : Vd P E x := ⟨hV.1, hV.2.1, hV.2.2.1, hV.2.2.2.1, hg⟩
      obtain ⟨aW', aN', aF', e1, g1, g2, g3⟩ := takeGenerator_ok hV2 (nI g) aW aN aF
      obtain ⟨bP', bT', e2, g4, g5⟩ := findsClasses_ok hV2 bPo bTb
      rw [if_pos hg, if_pos hg, e1, e2]
      exact ⟨_, _, rfl, rfl, rfl, ⟨P, E, x, hV2, ⟨rfl, rfl, rfl, rfl, rfl⟩, hG, g1, hRa, fun i j hi hj => g2 i j (by omega) (by omega), g3, hC, ⟨rfl, rfl, rfl⟩, g4, g5⟩, hS, hT, hP, hL, hI⟩
    · rw [if_neg hg, if_neg hg]
      exact ⟨_, _, rfl, rfl, rfl, hK, hS, hT, hP, hL, hI⟩
  · rw [if_neg hn, if_neg (by simp [hn])]
    exact ⟨_, _, rfl, rfl, rfl, hK, hS, hT, hP, hL, hI⟩
theorem lp_mem {P E g : Nat} (hV : Vd P E g) {aW bPo : Nat → Int32} (hW : PW P g aW) (hPo : PW P g bPo) (zf v1 v2 : Int32) : ∀ (fu x : Nat) (c : Int32), 1 ≤ x → x ≤ P → P - x < fu → ∃ r, f_X4_member_L30 (nI P) (nI E) zf aW v1 v2 fu c (nI x) = some r ∧ f_X5_member_L15 (nI P) (nI E) bPo v1 v2 fu c (nI x) = some r := by
  have hb := hV.bd
  intro fu
  induction fu with
  | zero => intro x c h0 h1 h2; exact absurd h2 (Nat.not_lt_zero _)
  | succ fu ih =>
    intro x c h0 h1 h2
    rw [f_X4_member_L30, f_X5_member_L15]
    rcases Nat.lt_or_ge x P with q | q
    · have h3 := dl_x hV.1 hV.2.2.2.2 h0 q
      rw [if_neg (q_nle (by omega) (by omega) q), if_neg (q_nle (by omega) (by omega) q), if_pos (inb_t (by omega) (by omega)), if_neg (q_ne0 (by omega) (by omega)), nI_clamp (by omega), hW x h0 q, q_rem (by omega) (by omega) (by omega), classAt_ok hV hPo h0 q, Option.bind_some, q_s]
      show ∃ r, (if nI (cl P E g x) = v1 then _ else _) = some r ∧ _
      by_cases he : nI (cl P E g x) = v1
      · rw [if_pos he, if_pos he]
        by_cases hc : c = v2
        · rw [if_pos hc, if_pos hc]
          exact ⟨_, rfl, rfl⟩
        · rw [if_neg hc, if_neg hc]
          exact ih (x + 1) _ (by omega) (by omega) (by omega)
      · rw [if_neg he, if_neg he]
        exact ih (x + 1) _ (by omega) (by omega) (by omega)
    · rw [if_pos (q_le (by omega) (by omega) q), if_pos (q_le (by omega) (by omega) q)]
      exact ⟨_, rfl, rfl⟩
theorem cnt1_mono (f : Nat → Bool) {x y : Nat} (h : x ≤ y) : cnt1 f x ≤ cnt1 f y := by
  induction y with
  | zero => rw [show x = 0 by omega]; exact Nat.le_refl _
  | succ y ih =>
    rcases Nat.lt_or_ge y x with q | q
    · rw [show x = y + 1 by omega]; exact Nat.le_refl _
    · have h1 := ih q
      rw [cnt1_s]
      omega
theorem lp_mem0 {P E g i : Nat} (hV : Vd P E g) {bPo : Nat → Int32} (hPo : PW P g bPo) (hi : i < E) {v2 : Int32} (hv : ∀ c, c < (P - 1) / E → v2 ≠ nI c) : ∀ (fu x : Nat), 1 ≤ x → x ≤ P → P - x < fu → f_X5_member_L15 (nI P) (nI E) bPo (nI i) v2 fu (nI (cnt1 (fun x => Nat.beq (cl P E g x) i) (x - 1))) (nI x) = some (-1) := by
  have hb := hV.bd
  have hc := (chkF_all hV hi).2.2.2
  intro fu
  induction fu with
  | zero => intro x h0 h1 h2; exact absurd h2 (Nat.not_lt_zero _)
  | succ fu ih =>
    intro x h0 h1 h2
    rw [f_X5_member_L15]
    rcases Nat.lt_or_ge x P with q | q
    · have h3 := ih (x + 1) (by omega) (by omega) (by omega)
      have c1 := cl_lt hV x
      have hs : cnt1 (fun x => Nat.beq (cl P E g x) i) (x + 1 - 1) = cnt1 (fun x => Nat.beq (cl P E g x) i) (x - 1) + (if Nat.beq (cl P E g x) i = true then 1 else 0) := by
        rw [show x + 1 - 1 = x - 1 + 1 by omega, cnt1_s, show x - 1 + 1 = x by omega]
      rw [if_neg (q_nle (by omega) (by omega) q), classAt_ok hV hPo h0 q, Option.bind_some]
      simp only [q_s]
      by_cases he : cl P E g x = i
      · have hbq : Nat.beq (cl P E g x) i = true := by rw [he]; exact Nat.beq_refl i
        rw [if_pos hbq] at hs
        have hm := cnt1_mono (fun x => Nat.beq (cl P E g x) i) (show x + 1 - 1 ≤ P - 1 by omega)
        rw [if_pos (by rw [he]), if_neg (fun w => hv _ (by omega) w.symm), ← hs]
        exact h3
      · have hbq : ¬ Nat.beq (cl P E g x) i = true := fun w => he (Nat.eq_of_beq_eq_true w)
        rw [if_neg hbq] at hs
        have hs : cnt1 (fun x => Nat.beq (cl P E g x) i) (x + 1 - 1) = cnt1 (fun x => Nat.beq (cl P E g x) i) (x - 1) := hs
        rw [if_neg (fun w => he ((q_eq (by omega) (by omega)).mp w)), ← hs]
        exact h3
    · rw [if_pos (q_le (by omega) (by omega) q)]
set_option maxRecDepth 4000 in
theorem op_member {zp : Int32} {ze : Int32} {zf : Int32} {zg : Int32} {zn : Int32} {aG : Nat → Int32} {aW : Nat → Int32} {aR : Nat → Int32} {aN : Nat → Int32} {aF : Nat → Int32} {lC : Nat → Int64} {lS : Nat → Int64} {lP : Nat → Int64} {lX : Nat → Int64} {ztc : Int32} {aTs : Nat → Int32} {aTn : Nat → Int32} {zoc : Int32} {aOs : Nat → Int32} {aOn : Nat → Int32} {aTp : Nat → Int32} {zln : Int32} {zpl : Int32} {zfa : Int32} {aSz : Nat → Int32} {zit : Int32} {zip : Int32} {zic : Int32} {zig : Int32} {M : Nat → Nat → Int64} {yp : Int32} {ye : Int32} {yg : Int32} {bPo : Nat → Int32} {bTb : Nat → Int32} {wSh : Nat → Int64} {wTe : Nat → Int64} {wNx : Nat → Int64} {bOs : Nat → Int32} {bOn : Nat → Int32} {yop : Int32} {bSo : Nat → Int32} {bNu : Nat → Int32} {ytr : Int32} {yiw : Int32} {wMa : Nat → Int64} {wPr : Nat → Int64} {bTp : Nat → Int32} {yln : Int32} {ypl : Int32} {yfa : Int32} {wLi : Nat → Int64} {bSi : Nat → Int32} {yhp : Int32} {yhe : Int32} {yhg : Int32} {wHs : Nat → Int64} {yhi : Int32} (h : Rel zp ze zf zg zn aG aW aR aN aF lC lS lP lX ztc aTs aTn zoc aOs aOn aTp zln zpl zfa aSz zit zip zic zig M yp ye yg bPo bTb wSh wTe wNx bOs bOn yop bSo bNu ytr yiw wMa wPr bTp yln ypl yfa wLi bSi yhp yhe yhg wHs yhi) (v1 : Int32) (v2 : Int32) : ∃ z1 z2, f_X4_member zp ze zf aW v1 v2 = some z1 ∧ f_X5_member yp ye bPo v1 v2 = some z2 ∧ z1 = z2 ∧ Rel zp ze zf zg zn aG aW aR aN aF lC lS lP lX ztc aTs aTn zoc aOs aOn aTp zln zpl zfa aSz zit zip zic zig M yp ye yg bPo bTb wSh wTe wNx bOs bOn yop bSo bNu ytr yiw wMa wPr bTp yln ypl yfa wLi bSi yhp yhe yhg wHs yhi := by
  obtain ⟨hK, hS, hT, hP, hL, hI⟩ := h
  obtain ⟨P, E, g, hV, ⟨rfl, rfl, rfl, rfl, rfl⟩, hG, hW, hRa, hN, hF, hC, ⟨rfl, rfl, rfl⟩, hPo, hTb⟩ := hK
  have hK : RelK (nI P) (nI E) (nI ((P - 1) / E)) (nI g) (nI (gens P).length) aG aW aR aN aF lC (nI P) (nI E) (nI g) bPo bTb := ⟨P, E, g, hV, ⟨rfl, rfl, rfl, rfl, rfl⟩, hG, hW, hRa, hN, hF, hC, ⟨rfl, rfl, rfl⟩, hPo, hTb⟩
  have hb := hV.bd
  unfold f_X4_member f_X5_member
  rw [pu_cls4 (by omega), pu_cls5 (by omega) (by omega), Option.bind_some, Option.bind_some, pu_if, pu_if]
  by_cases hn : inb v1 E = true
  · obtain ⟨i, hi, rfl⟩ := inb_ex hn (by omega)
    have hFl : (P - 1) / E ≤ P - 1 := Nat.div_le_self _ _
    rw [if_pos hn, if_pos hn]
    by_cases hm : inb v2 ((P - 1) / E) = true
    · obtain ⟨k, hk, rfl⟩ := inb_ex hm (by omega)
      obtain ⟨r, e1, e2⟩ := lp_mem hV hW hPo (nI ((P - 1) / E)) (nI i) (nI k) FU 1 0 (Nat.le_refl 1) (by omega) (by show _ < 2000; omega)
      rw [if_neg (nI_pos (by omega)), if_pos (q_lt (by omega) (by omega) hk)]
      exact ⟨r, r, e1, e2, rfl, hK, hS, hT, hP, hL, hI⟩
    · have hf := (inb_f (v := v2) (n := (P - 1) / E) (by omega)).mp (Bool.eq_false_iff.mpr hm)
      have e2 := lp_mem0 hV hPo hi (v2 := v2) (fun c hc he => hm (by rw [he]; exact inb_t hc (by omega))) FU 1 (Nat.le_refl 1) (by omega) (by show _ < 2000; omega)
      have e2 : f_X5_member_L15 (nI P) (nI E) bPo (nI i) v2 FU 0 1 = some (-1) := e2
      rw [e2]
      by_cases h0 : v2 < 0
      · rw [if_pos h0]
        exact ⟨_, _, rfl, rfl, rfl, hK, hS, hT, hP, hL, hI⟩
      · have h1 : ¬ v2 < nI ((P - 1) / E) := by
          rcases hf with h | h
          · exact absurd h h0
          · rw [Int32.le_iff_toInt_le] at h
            rw [Int32.lt_iff_toInt_lt]
            omega
        rw [if_neg h0, if_neg h1]
        exact ⟨_, _, rfl, rfl, rfl, hK, hS, hT, hP, hL, hI⟩
  · rw [if_neg hn, if_neg hn]
    exact ⟨_, _, rfl, rfl, rfl, hK, hS, hT, hP, hL, hI⟩
theorem lp_ar {P E g i : Nat} (hV : Vd P E g) {aN bPo : Nat → Int32} (hN : ∀ i j, i < E → j < E → aN (12 * i + j) = nI (bes P E g i j)) (hPo : PW P g bPo) (hi : i < E) (v2 : Int32) : ∀ (fu j : Nat) (acc : Int32), j ≤ E → E - j < fu → ∃ r, f_X4_around_L24 (nI E) aN (nI i) v2 fu acc (nI j) = some r ∧ f_X5_around_L25 (nI P) (nI E) bPo (nI i) v2 fu acc (nI j) = some r := by
  have hb := hV.bd
  intro fu
  induction fu with
  | zero => intro x c h1 h2; exact absurd h2 (Nat.not_lt_zero _)
  | succ fu ih =>
    intro j acc h1 h2
    rw [f_X4_around_L24, f_X5_around_L25]
    rcases Nat.lt_or_ge j E with q | q
    · rw [if_neg (q_nle (by omega) (by omega) q), if_neg (q_nle (by omega) (by omega) q), q_ix12, q_ix12, besideOf_ok hV hPo (by omega) (by omega), besideOf_ok hV hPo (by omega) (by omega), q_s]
      by_cases h0 : v2 = 0
      · rw [if_pos h0, if_pos h0, if_pos (inb_t (by omega) (by omega)), nI_clamp (by omega), hN i j hi q, Option.bind_some]
        exact ih (j + 1) _ (by omega) (by omega)
      · rw [if_neg h0, if_neg h0, if_pos (inb_t (by omega) (by omega)), nI_clamp (by omega), hN j i q hi, Option.bind_some]
        exact ih (j + 1) _ (by omega) (by omega)
    · rw [if_pos (q_le (by omega) (by omega) q), if_pos (q_le (by omega) (by omega) q)]
      exact ⟨_, rfl, rfl⟩
set_option maxRecDepth 4000 in
theorem op_around {zp : Int32} {ze : Int32} {zf : Int32} {zg : Int32} {zn : Int32} {aG : Nat → Int32} {aW : Nat → Int32} {aR : Nat → Int32} {aN : Nat → Int32} {aF : Nat → Int32} {lC : Nat → Int64} {lS : Nat → Int64} {lP : Nat → Int64} {lX : Nat → Int64} {ztc : Int32} {aTs : Nat → Int32} {aTn : Nat → Int32} {zoc : Int32} {aOs : Nat → Int32} {aOn : Nat → Int32} {aTp : Nat → Int32} {zln : Int32} {zpl : Int32} {zfa : Int32} {aSz : Nat → Int32} {zit : Int32} {zip : Int32} {zic : Int32} {zig : Int32} {M : Nat → Nat → Int64} {yp : Int32} {ye : Int32} {yg : Int32} {bPo : Nat → Int32} {bTb : Nat → Int32} {wSh : Nat → Int64} {wTe : Nat → Int64} {wNx : Nat → Int64} {bOs : Nat → Int32} {bOn : Nat → Int32} {yop : Int32} {bSo : Nat → Int32} {bNu : Nat → Int32} {ytr : Int32} {yiw : Int32} {wMa : Nat → Int64} {wPr : Nat → Int64} {bTp : Nat → Int32} {yln : Int32} {ypl : Int32} {yfa : Int32} {wLi : Nat → Int64} {bSi : Nat → Int32} {yhp : Int32} {yhe : Int32} {yhg : Int32} {wHs : Nat → Int64} {yhi : Int32} (h : Rel zp ze zf zg zn aG aW aR aN aF lC lS lP lX ztc aTs aTn zoc aOs aOn aTp zln zpl zfa aSz zit zip zic zig M yp ye yg bPo bTb wSh wTe wNx bOs bOn yop bSo bNu ytr yiw wMa wPr bTp yln ypl yfa wLi bSi yhp yhe yhg wHs yhi) (v1 : Int32) (v2 : Int32) : ∃ z1 z2, f_X4_around ze aN v1 v2 = some z1 ∧ f_X5_around yp ye bPo v1 v2 = some z2 ∧ z1 = z2 ∧ Rel zp ze zf zg zn aG aW aR aN aF lC lS lP lX ztc aTs aTn zoc aOs aOn aTp zln zpl zfa aSz zit zip zic zig M yp ye yg bPo bTb wSh wTe wNx bOs bOn yop bSo bNu ytr yiw wMa wPr bTp yln ypl yfa wLi bSi yhp yhe yhg wHs yhi := by
  obtain ⟨hK, hS, hT, hP, hL, hI⟩ := h
  obtain ⟨P, E, g, hV, ⟨rfl, rfl, rfl, rfl, rfl⟩, hG, hW, hRa, hN, hF, hC, ⟨rfl, rfl, rfl⟩, hPo, hTb⟩ := hK
  have hK : RelK (nI P) (nI E) (nI ((P - 1) / E)) (nI g) (nI (gens P).length) aG aW aR aN aF lC (nI P) (nI E) (nI g) bPo bTb := ⟨P, E, g, hV, ⟨rfl, rfl, rfl, rfl, rfl⟩, hG, hW, hRa, hN, hF, hC, ⟨rfl, rfl, rfl⟩, hPo, hTb⟩
  have hb := hV.bd
  unfold f_X4_around f_X5_around
  rw [pu_cls4 (by omega), pu_cls5 (by omega) (by omega), Option.bind_some, Option.bind_some, pu_if, pu_if]
  by_cases hn : inb v1 E = true
  · obtain ⟨i, hi, rfl⟩ := inb_ex hn (by omega)
    rw [if_pos hn, if_pos hn, pu_in0c v2 1 (n := 2) (by decide) (by decide), Option.bind_some, pu_if]
    by_cases hm : inb v2 2 = true
    · obtain ⟨k, hk, rfl⟩ := inb_ex hm (by omega)
      obtain ⟨r, e1, e2⟩ := lp_ar hV hN hPo hi (nI k) FU 0 0 (Nat.zero_le _) (by show _ < 2000; omega)
      rw [if_pos hm, if_neg (nI_pos (by omega)), if_pos (show nI k ≤ 1 from q_le (b := 1) (by omega) (by decide) (by omega))]
      exact ⟨r, r, e1, e2, rfl, hK, hS, hT, hP, hL, hI⟩
    · have hf := (inb_f (v := v2) (n := 2) (by omega)).mp (Bool.eq_false_iff.mpr hm)
      rw [if_neg hm]
      by_cases h0 : v2 < 0
      · rw [if_pos h0]
        exact ⟨_, _, rfl, rfl, rfl, hK, hS, hT, hP, hL, hI⟩
      · have h1 : ¬ v2 ≤ 1 := by
          rcases hf with h | h
          · exact absurd h h0
          · rw [Int32.le_iff_toInt_le] at h
            rw [Int32.le_iff_toInt_le]
            have a : (nI 2).toInt = 2 := by decide
            have b : (1 : Int32).toInt = 1 := by decide
            omega
        rw [if_neg h0, if_neg h1]
        exact ⟨_, _, rfl, rfl, rfl, hK, hS, hT, hP, hL, hI⟩
  · rw [if_neg hn, if_neg hn]
    exact ⟨_, _, rfl, rfl, rfl, hK, hS, hT, hP, hL, hI⟩
theorem lp_rm {P E x : Nat} (hP1 : 2 ≤ P) (hP2 : P ≤ 61) (hE : E ≤ 12) (hx : x < P) : ∀ (fu k : Nat), k ≤ E → E - k < fu → f_X5_raisedModulo_L4 (nI P) (nI E) (nI x) fu (nI (x ^ k % P)) (nI k) = some (nI (x ^ E % P)) := by
  intro fu
  induction fu with
  | zero => intro k h1 h2; exact absurd h2 (Nat.not_lt_zero _)
  | succ fu ih =>
    intro k h1 h2
    have hm : x ^ k % P < P := Nat.mod_lt _ (by omega)
    rw [f_X5_raisedModulo_L4]
    rcases Nat.lt_or_ge k E with q | q
    · rw [if_neg (q_nle (by omega) (by omega) q), if_neg (q_ne0 (by omega) (by omega)), pk_mul, q_rem (by have := Nat.mul_le_mul (Nat.le_of_lt hm) (Nat.le_of_lt hx); have : P * P ≤ 61 * 61 := Nat.mul_le_mul hP2 hP2; omega) (by omega) (by omega), q_step, q_s]
      exact ih (k + 1) (by omega) (by omega)
    · rw [if_pos (q_le (by omega) (by omega) q), show k = E by omega]
theorem raisedModulo_ok {P E x : Nat} (hP1 : 2 ≤ P) (hP2 : P ≤ 61) (hE : E ≤ 12) (hx : x < P) : f_X5_raisedModulo (nI P) (nI E) (nI x) = some (nI (x ^ E % P)) := by
  have h := lp_rm hP1 hP2 hE hx FU 0 (Nat.zero_le _) (by show _ < 2000; omega)
  rw [Nat.pow_zero, Nat.mod_eq_of_lt (show 1 < P by omega)] at h
  exact h
theorem lp_so1 {P E x : Nat} (hP1 : 2 ≤ P) (hP2 : P ≤ 61) (hE : E ≤ 12) (hx : x < P) {aR : Nat → Int32} (hR : ∀ x, x < P → aR x = nI (x ^ E % P)) (v1 v2 v3 : Int32) {K4 : Int32 → Int32 → Int32 → Option Int32} {K5 : Int32 → Int32 → Option Int32} : ∀ (fu y : Nat) (acc : Int32), y ≤ P → P - y < fu →
    ∃ r, f_X4_solved_L51 (nI P) aR v1 v2 v3 K4 fu (nI P) acc (nI x) (nI y) = K4 (nI P) r (nI x + 1) ∧ f_X5_solved_L68 (nI P) (nI E) v1 v2 v3 K5 fu acc (nI x) (nI y) = K5 r (nI x + 1) := by
  intro fu
  induction fu with
  | zero => intro y acc h1 h2; exact absurd h2 (Nat.not_lt_zero _)
  | succ fu ih =>
    intro y acc h1 h2
    rw [f_X4_solved_L51, f_X5_solved_L68]
    rcases Nat.lt_or_ge y P with q | q
    · rw [if_neg (q_nle (by omega) (by omega) q), if_neg (q_nle (by omega) (by omega) q), if_pos (inb_t (by omega) (by omega)), if_pos (inb_t (by omega) (by omega)), if_neg (q_ne0 (by omega) (by omega)), nI_clamp (by omega), nI_clamp (by omega), hR x hx, hR y q, raisedModulo_ok hP1 hP2 hE hx, Option.bind_some, raisedModulo_ok hP1 hP2 hE q, Option.bind_some, if_neg (q_ne0 (by omega) (by omega)), q_s]
      by_cases he : (v1 * nI (x ^ E % P) + v2 * nI (y ^ E % P)) - (v1 * nI (x ^ E % P) + v2 * nI (y ^ E % P)) / nI P * nI P = v3
      · rw [if_pos he, if_pos he]
        exact ih (y + 1) (acc + 1) (by omega) (by omega)
      · rw [if_neg he, if_neg he]
        show ∃ r, _ ∧ f_X5_solved_L68 _ _ _ _ _ _ _ (acc + 0) _ _ = _
        rw [Int32.add_zero]
        exact ih (y + 1) acc (by omega) (by omega)
    · rw [if_pos (q_le (by omega) (by omega) q), if_pos (q_le (by omega) (by omega) q)]
      exact ⟨acc, rfl, rfl⟩
theorem lp_so2 {P E : Nat} (hP1 : 2 ≤ P) (hP2 : P ≤ 61) (hE : E ≤ 12) {aR : Nat → Int32} (hR : ∀ x, x < P → aR x = nI (x ^ E % P)) (v1 v2 v3 : Int32) : ∀ (fu x : Nat) (acc : Int32), x ≤ P → P - x < fu →
    ∃ r, f_X4_solved_L41 (nI P) aR v1 v2 v3 fu (nI P) acc (nI x) = some r ∧ f_X5_solved_L56 (nI P) (nI E) v1 v2 v3 fu acc (nI x) = some r := by
  intro fu
  induction fu with
  | zero => intro y acc h1 h2; exact absurd h2 (Nat.not_lt_zero _)
  | succ fu ih =>
    intro x acc h1 h2
    rw [f_X4_solved_L41, f_X5_solved_L56]
    rcases Nat.lt_or_ge x P with q | q
    · rw [if_neg (q_nle (by omega) (by omega) q), if_neg (q_nle (by omega) (by omega) q)]
      obtain ⟨r, e1, e2⟩ := lp_so1 (K4 := fun w0 w1 w2 => f_X4_solved_L41 (nI P) aR v1 v2 v3 fu w0 w1 w2) (K5 := fun w0 w1 => f_X5_solved_L56 (nI P) (nI E) v1 v2 v3 fu w0 w1) hP1 hP2 hE q hR v1 v2 v3 FU 0 acc (Nat.zero_le _) (by show _ < 2000; omega)
      rw [show (0 : Int32) = nI 0 from rfl, e1, e2]
      show ∃ r', f_X4_solved_L41 _ _ _ _ _ _ _ r (nI x + 1) = _ ∧ f_X5_solved_L56 _ _ _ _ _ _ r (nI x + 1) = _
      rw [q_s]
      exact ih (x + 1) r (by omega) (by omega)
    · rw [if_pos (q_le (by omega) (by omega) q), if_pos (q_le (by omega) (by omega) q)]
      exact ⟨acc, rfl, rfl⟩
set_option maxRecDepth 4000 in
theorem op_solved {zp : Int32} {ze : Int32} {zf : Int32} {zg : Int32} {zn : Int32} {aG : Nat → Int32} {aW : Nat → Int32} {aR : Nat → Int32} {aN : Nat → Int32} {aF : Nat → Int32} {lC : Nat → Int64} {lS : Nat → Int64} {lP : Nat → Int64} {lX : Nat → Int64} {ztc : Int32} {aTs : Nat → Int32} {aTn : Nat → Int32} {zoc : Int32} {aOs : Nat → Int32} {aOn : Nat → Int32} {aTp : Nat → Int32} {zln : Int32} {zpl : Int32} {zfa : Int32} {aSz : Nat → Int32} {zit : Int32} {zip : Int32} {zic : Int32} {zig : Int32} {M : Nat → Nat → Int64} {yp : Int32} {ye : Int32} {yg : Int32} {bPo : Nat → Int32} {bTb : Nat → Int32} {wSh : Nat → Int64} {wTe : Nat → Int64} {wNx : Nat → Int64} {bOs : Nat → Int32} {bOn : Nat → Int32} {yop : Int32} {bSo : Nat → Int32} {bNu : Nat → Int32} {ytr : Int32} {yiw : Int32} {wMa : Nat → Int64} {wPr : Nat → Int64} {bTp : Nat → Int32} {yln : Int32} {ypl : Int32} {yfa : Int32} {wLi : Nat → Int64} {bSi : Nat → Int32} {yhp : Int32} {yhe : Int32} {yhg : Int32} {wHs : Nat → Int64} {yhi : Int32} (h : Rel zp ze zf zg zn aG aW aR aN aF lC lS lP lX ztc aTs aTn zoc aOs aOn aTp zln zpl zfa aSz zit zip zic zig M yp ye yg bPo bTb wSh wTe wNx bOs bOn yop bSo bNu ytr yiw wMa wPr bTp yln ypl yfa wLi bSi yhp yhe yhg wHs yhi) (v1 : Int32) (v2 : Int32) (v3 : Int32) : ∃ z1 z2, f_X4_solved zp aR v1 v2 v3 = some z1 ∧ f_X5_solved yp ye v1 v2 v3 = some z2 ∧ z1 = z2 ∧ Rel zp ze zf zg zn aG aW aR aN aF lC lS lP lX ztc aTs aTn zoc aOs aOn aTp zln zpl zfa aSz zit zip zic zig M yp ye yg bPo bTb wSh wTe wNx bOs bOn yop bSo bNu ytr yiw wMa wPr bTp yln ypl yfa wLi bSi yhp yhe yhg wHs yhi := by
  obtain ⟨hK, hS, hT, hP, hL, hI⟩ := h
  obtain ⟨P, E, g, hV, ⟨rfl, rfl, rfl, rfl, rfl⟩, hG, hW, hRa, hN, hF, hC, ⟨rfl, rfl, rfl⟩, hPo, hTb⟩ := hK
  have hK : RelK (nI P) (nI E) (nI ((P - 1) / E)) (nI g) (nI (gens P).length) aG aW aR aN aF lC (nI P) (nI E) (nI g) bPo bTb := ⟨P, E, g, hV, ⟨rfl, rfl, rfl, rfl, rfl⟩, hG, hW, hRa, hN, hF, hC, ⟨rfl, rfl, rfl⟩, hPo, hTb⟩
  have hb := hV.bd
  unfold f_X4_solved f_X5_solved
  have hz : (nI P - 1).toInt = (P : Int) - 1 := pk_sub_toInt (b := 1) (by omega) (by decide)
  rw [pu_rest4 (by omega), pu_rest4 (by omega), pu_rest4 (by omega), pu_in0 v1 (nI P - 1) (by omega) hz, pu_in0 v2 (nI P - 1) (by omega) hz, pu_in0 v3 (nI P - 1) (by omega) hz]
  simp only [Option.bind_some, pu_if]
  by_cases h1 : inb v1 P = true
  · by_cases h2 : inb v2 P = true
    · by_cases h3 : inb v3 P = true
      · rw [if_pos h1, if_pos h1, if_pos h2, if_pos h2, if_pos h3, if_pos h3]
        obtain ⟨r, e1, e2⟩ := lp_so2 (E := E) (by omega) hb.2.1 hb.2.2.2.1 hRa v1 v2 v3 FU 0 0 (Nat.zero_le _) (by show _ < 2000; omega)
        exact ⟨r, r, e1, e2, rfl, hK, hS, hT, hP, hL, hI⟩
      · rw [if_pos h1, if_pos h1, if_pos h2, if_pos h2, if_neg h3, if_neg h3]
        exact ⟨_, _, rfl, rfl, rfl, hK, hS, hT, hP, hL, hI⟩
    · rw [if_pos h1, if_pos h1, if_neg h2, if_neg h2]
      exact ⟨_, _, rfl, rfl, rfl, hK, hS, hT, hP, hL, hI⟩
  · rw [if_neg h1, if_neg h1]
    exact ⟨_, _, rfl, rfl, rfl, hK, hS, hT, hP, hL, hI⟩

