/-! CALLS on shelves, lists, the tape that have no reckoning -/
theorem relS_iff {E : Nat} (hE : E < 2 ^ 31) (M : Nat → Nat → Int64) (wSh : Nat → Int64) : RelS (nI E) M wSh ↔ ∀ s i : Nat, s < 4 → i < E → M s i = wSh (12 * s + i) := by
  unfold RelS
  rw [nI_clamp hE]
theorem up_s {α : Type} (f : Nat → α) (k : Nat) (v : α) : va_up f k v k = v := by simp [va_up]
theorem up_n {α : Type} (f : Nat → α) {k j : Nat} (v : α) (h : j ≠ k) : va_up f k v j = f j := by simp [va_up, h]
/-- the rows of LISTS and THE IMAGE stay -/
def MS (M M' : Nat → Nat → Int64) : Prop := ∀ r : Nat, 4 ≤ r → r < 11 → M' r = M r
theorem relL_M {aSz : Nat → Int32} {M M' : Nat → Nat → Int64} {wLi : Nat → Int64} {bSi : Nat → Int32} (hM : MS M M') (h : RelL aSz M wLi bSi) : RelL aSz M' wLi bSi := by
  intro t ht
  obtain ⟨h1, h2⟩ := h t ht
  refine ⟨h1, ?_⟩
  rcases h2 with h2 | ⟨n, h3, h4, h5⟩
  · exact Or.inl h2
  · exact Or.inr ⟨n, h3, h4, fun i hi => by rw [hM _ (by omega) (by omega)]; exact h5 i hi⟩
theorem relI_M {zit zip zic zig : Int32} {M M' : Nat → Nat → Int64} {yhp yhe yhg : Int32} {wHs : Nat → Int64} {yhi : Int32} (hM : MS M M') (h : RelI zit zip zic zig M yhp yhe yhg wHs yhi) : RelI zit zip zic zig M' yhp yhe yhg wHs yhi := by
  obtain ⟨h1, h2⟩ := h
  refine ⟨h1, ?_⟩
  rcases h2 with h2 | ⟨h3, P, E, g, a, b, c, d, e, f, k, h4⟩
  · exact Or.inl h2
  · exact Or.inr ⟨h3, P, E, g, a, b, c, d, e, f, k, fun s i hs hi => by rw [hM _ (by omega) (by omega)]; exact h4 s i hs hi⟩
theorem MS_low {M : Nat → Nat → Int64} {s : Nat} {v : Nat → Int64} (hs : s < 4) : MS M (va_up M s v) := fun r h1 _ => up_n M v (by omega)
theorem rl_lt {a i : Nat} (h : i < 12) : i < rl a := by have := rl_12 a; omega
theorem rl_le (a : Nat) : rl a < 2 ^ 31 := by unfold rl; split <;> decide
theorem rl_list {t : Nat} (h : t < 3) : rl (4 + t) = 15 := by unfold rl; rw [if_pos (by omega)]
set_option maxRecDepth 4000 in
theorem op_put {zp : Int32} {ze : Int32} {zf : Int32} {zg : Int32} {zn : Int32} {aG : Nat → Int32} {aW : Nat → Int32} {aR : Nat → Int32} {aN : Nat → Int32} {aF : Nat → Int32} {lC : Nat → Int64} {lS : Nat → Int64} {lP : Nat → Int64} {lX : Nat → Int64} {ztc : Int32} {aTs : Nat → Int32} {aTn : Nat → Int32} {zoc : Int32} {aOs : Nat → Int32} {aOn : Nat → Int32} {aTp : Nat → Int32} {zln : Int32} {zpl : Int32} {zfa : Int32} {aSz : Nat → Int32} {zit : Int32} {zip : Int32} {zic : Int32} {zig : Int32} {M : Nat → Nat → Int64} {yp : Int32} {ye : Int32} {yg : Int32} {bPo : Nat → Int32} {bTb : Nat → Int32} {wSh : Nat → Int64} {wTe : Nat → Int64} {wNx : Nat → Int64} {bOs : Nat → Int32} {bOn : Nat → Int32} {yop : Int32} {bSo : Nat → Int32} {bNu : Nat → Int32} {ytr : Int32} {yiw : Int32} {wMa : Nat → Int64} {wPr : Nat → Int64} {bTp : Nat → Int32} {yln : Int32} {ypl : Int32} {yfa : Int32} {wLi : Nat → Int64} {bSi : Nat → Int32} {yhp : Int32} {yhe : Int32} {yhg : Int32} {wHs : Nat → Int64} {yhi : Int32} (h : Rel zp ze zf zg zn aG aW aR aN aF lC lS lP lX ztc aTs aTn zoc aOs aOn aTp zln zpl zfa aSz zit zip zic zig M yp ye yg bPo bTb wSh wTe wNx bOs bOn yop bSo bNu ytr yiw wMa wPr bTp yln ypl yfa wLi bSi yhp yhe yhg wHs yhi) (v1 : Int32) (v2 : Int32) (v3 : Int64) : ∃ z1 z2, f_X4_put ze M v1 v2 v3 = some z1 ∧ f_X5_put ye wSh v1 v2 v3 = some z2 ∧ z1.1 = z2.1 ∧ Rel zp ze zf zg zn aG aW aR aN aF lC lS lP lX ztc aTs aTn zoc aOs aOn aTp zln zpl zfa aSz zit zip zic zig z1.2 yp ye yg bPo bTb z2.2 wTe wNx bOs bOn yop bSo bNu ytr yiw wMa wPr bTp yln ypl yfa wLi bSi yhp yhe yhg wHs yhi := by
  obtain ⟨hK, hS, hT, hP, hL, hI⟩ := h
  obtain ⟨P, E, g, hV, ⟨rfl, rfl, rfl, rfl, rfl⟩, hG, hW, hRa, hN, hF, hC, ⟨rfl, rfl, rfl⟩, hPo, hTb⟩ := hK
  have hK : RelK (nI P) (nI E) (nI ((P - 1) / E)) (nI g) (nI (gens P).length) aG aW aR aN aF lC (nI P) (nI E) (nI g) bPo bTb := ⟨P, E, g, hV, ⟨rfl, rfl, rfl, rfl, rfl⟩, hG, hW, hRa, hN, hF, hC, ⟨rfl, rfl, rfl⟩, hPo, hTb⟩
  have hb := hV.bd
  unfold f_X4_put f_X5_put
  rw [pu_shelf4, pu_shelf5, pu_cls4 (by omega), pu_cls5 (by omega) (by omega)]
  simp only [Option.bind_some, pu_if]
  by_cases h1 : inb v1 4 = true
  · by_cases h2 : inb v2 E = true
    · obtain ⟨s, hs, rfl⟩ := inb_ex h1 (by omega)
      obtain ⟨i, hi, rfl⟩ := inb_ex h2 (by omega)
      rw [relS_iff (by omega)] at hS
      simp only [if_pos h1, if_pos h2]
      rw [if_pos (inb_t (rl_lt (by omega)) (by omega)), pu_i12, if_pos (inb_t (by omega) (by omega)), nI_clamp (by omega), nI_clamp (by omega), nI_clamp (by omega), Nat.zero_add]
      refine ⟨_, _, rfl, rfl, rfl, hK, ?_, hT, hP, relL_M (MS_low hs) hL, relI_M (MS_low hs) hI⟩
      rw [relS_iff (by omega)]
      intro s2 i2 hs2 hi2
      show va_up M s (vp_updL (M s) i v3) s2 i2 = vp_updL wSh (12 * s + i) v3 (12 * s2 + i2)
      by_cases e1 : s2 = s
      · rw [e1, up_s]
        by_cases e2 : i2 = i
        · rw [e2, vL_s, vL_s]
        · rw [vL_n e2, vL_n (by omega)]
          exact hS s i2 hs hi2
      · rw [up_n _ _ e1, vL_n (by omega)]
        exact hS s2 i2 hs2 hi2
    · simp only [if_pos h1, if_neg h2]
      exact ⟨_, _, rfl, rfl, rfl, hK, hS, hT, hP, hL, hI⟩
  · simp only [if_neg h1]
    exact ⟨_, _, rfl, rfl, rfl, hK, hS, hT, hP, hL, hI⟩
set_option maxRecDepth 4000 in
theorem op_of {zp : Int32} {ze : Int32} {zf : Int32} {zg : Int32} {zn : Int32} {aG : Nat → Int32} {aW : Nat → Int32} {aR : Nat → Int32} {aN : Nat → Int32} {aF : Nat → Int32} {lC : Nat → Int64} {lS : Nat → Int64} {lP : Nat → Int64} {lX : Nat → Int64} {ztc : Int32} {aTs : Nat → Int32} {aTn : Nat → Int32} {zoc : Int32} {aOs : Nat → Int32} {aOn : Nat → Int32} {aTp : Nat → Int32} {zln : Int32} {zpl : Int32} {zfa : Int32} {aSz : Nat → Int32} {zit : Int32} {zip : Int32} {zic : Int32} {zig : Int32} {M : Nat → Nat → Int64} {yp : Int32} {ye : Int32} {yg : Int32} {bPo : Nat → Int32} {bTb : Nat → Int32} {wSh : Nat → Int64} {wTe : Nat → Int64} {wNx : Nat → Int64} {bOs : Nat → Int32} {bOn : Nat → Int32} {yop : Int32} {bSo : Nat → Int32} {bNu : Nat → Int32} {ytr : Int32} {yiw : Int32} {wMa : Nat → Int64} {wPr : Nat → Int64} {bTp : Nat → Int32} {yln : Int32} {ypl : Int32} {yfa : Int32} {wLi : Nat → Int64} {bSi : Nat → Int32} {yhp : Int32} {yhe : Int32} {yhg : Int32} {wHs : Nat → Int64} {yhi : Int32} (h : Rel zp ze zf zg zn aG aW aR aN aF lC lS lP lX ztc aTs aTn zoc aOs aOn aTp zln zpl zfa aSz zit zip zic zig M yp ye yg bPo bTb wSh wTe wNx bOs bOn yop bSo bNu ytr yiw wMa wPr bTp yln ypl yfa wLi bSi yhp yhe yhg wHs yhi) (v1 : Int32) (v2 : Int32) : ∃ z1 z2, f_X4_of ze M v1 v2 = some z1 ∧ f_X5_of ye wSh v1 v2 = some z2 ∧ z1 = z2 ∧ Rel zp ze zf zg zn aG aW aR aN aF lC lS lP lX ztc aTs aTn zoc aOs aOn aTp zln zpl zfa aSz zit zip zic zig M yp ye yg bPo bTb wSh wTe wNx bOs bOn yop bSo bNu ytr yiw wMa wPr bTp yln ypl yfa wLi bSi yhp yhe yhg wHs yhi := by
  obtain ⟨hK, hS, hT, hP, hL, hI⟩ := h
  obtain ⟨P, E, g, hV, ⟨rfl, rfl, rfl, rfl, rfl⟩, hG, hW, hRa, hN, hF, hC, ⟨rfl, rfl, rfl⟩, hPo, hTb⟩ := hK
  have hK : RelK (nI P) (nI E) (nI ((P - 1) / E)) (nI g) (nI (gens P).length) aG aW aR aN aF lC (nI P) (nI E) (nI g) bPo bTb := ⟨P, E, g, hV, ⟨rfl, rfl, rfl, rfl, rfl⟩, hG, hW, hRa, hN, hF, hC, ⟨rfl, rfl, rfl⟩, hPo, hTb⟩
  have hb := hV.bd
  unfold f_X4_of f_X5_of
  rw [pu_shelf4, pu_shelf5, pu_cls4 (by omega), pu_cls5 (by omega) (by omega)]
  simp only [Option.bind_some, pu_if]
  by_cases h1 : inb v1 4 = true
  · by_cases h2 : inb v2 E = true
    · obtain ⟨s, hs, rfl⟩ := inb_ex h1 (by omega)
      obtain ⟨i, hi, rfl⟩ := inb_ex h2 (by omega)
      have hS2 := (relS_iff (by omega) M wSh).mp hS s i hs hi
      simp only [if_pos h1, if_pos h2]
      rw [if_pos (inb_t (rl_lt (by omega)) (by omega)), pu_i12, if_pos (inb_t (by omega) (by omega)), nI_clamp (by omega), nI_clamp (by omega), nI_clamp (by omega), Nat.zero_add, hS2]
      exact ⟨_, _, rfl, rfl, rfl, hK, hS, hT, hP, hL, hI⟩
    · simp only [if_pos h1, if_neg h2]
      exact ⟨_, _, rfl, rfl, rfl, hK, hS, hT, hP, hL, hI⟩
  · simp only [if_neg h1]
    exact ⟨_, _, rfl, rfl, rfl, hK, hS, hT, hP, hL, hI⟩
set_option maxRecDepth 4000 in
theorem op_why {zp : Int32} {ze : Int32} {zf : Int32} {zg : Int32} {zn : Int32} {aG : Nat → Int32} {aW : Nat → Int32} {aR : Nat → Int32} {aN : Nat → Int32} {aF : Nat → Int32} {lC : Nat → Int64} {lS : Nat → Int64} {lP : Nat → Int64} {lX : Nat → Int64} {ztc : Int32} {aTs : Nat → Int32} {aTn : Nat → Int32} {zoc : Int32} {aOs : Nat → Int32} {aOn : Nat → Int32} {aTp : Nat → Int32} {zln : Int32} {zpl : Int32} {zfa : Int32} {aSz : Nat → Int32} {zit : Int32} {zip : Int32} {zic : Int32} {zig : Int32} {M : Nat → Nat → Int64} {yp : Int32} {ye : Int32} {yg : Int32} {bPo : Nat → Int32} {bTb : Nat → Int32} {wSh : Nat → Int64} {wTe : Nat → Int64} {wNx : Nat → Int64} {bOs : Nat → Int32} {bOn : Nat → Int32} {yop : Int32} {bSo : Nat → Int32} {bNu : Nat → Int32} {ytr : Int32} {yiw : Int32} {wMa : Nat → Int64} {wPr : Nat → Int64} {bTp : Nat → Int32} {yln : Int32} {ypl : Int32} {yfa : Int32} {wLi : Nat → Int64} {bSi : Nat → Int32} {yhp : Int32} {yhe : Int32} {yhg : Int32} {wHs : Nat → Int64} {yhi : Int32} (h : Rel zp ze zf zg zn aG aW aR aN aF lC lS lP lX ztc aTs aTn zoc aOs aOn aTp zln zpl zfa aSz zit zip zic zig M yp ye yg bPo bTb wSh wTe wNx bOs bOn yop bSo bNu ytr yiw wMa wPr bTp yln ypl yfa wLi bSi yhp yhe yhg wHs yhi) (v1 : Int32) (v2 : Int32) : ∃ z1 z2, f_X4_why ztc aTs aTn v1 v2 = some z1 ∧ f_X5_why bSo bNu ytr v1 v2 = some z2 ∧ z1 = z2 ∧ Rel zp ze zf zg zn aG aW aR aN aF lC lS lP lX ztc aTs aTn zoc aOs aOn aTp zln zpl zfa aSz zit zip zic zig M yp ye yg bPo bTb wSh wTe wNx bOs bOn yop bSo bNu ytr yiw wMa wPr bTp yln ypl yfa wLi bSi yhp yhe yhg wHs yhi := by
  obtain ⟨hK, hS, hT, hP, hL, hI⟩ := h
  obtain ⟨P, E, g, hV, ⟨rfl, rfl, rfl, rfl, rfl⟩, hG, hW, hRa, hN, hF, hC, ⟨rfl, rfl, rfl⟩, hPo, hTb⟩ := hK
  have hK : RelK (nI P) (nI E) (nI ((P - 1) / E)) (nI g) (nI (gens P).length) aG aW aR aN aF lC (nI P) (nI E) (nI g) bPo bTb := ⟨P, E, g, hV, ⟨rfl, rfl, rfl, rfl, rfl⟩, hG, hW, hRa, hN, hF, hC, ⟨rfl, rfl, rfl⟩, hPo, hTb⟩
  have hb := hV.bd
  unfold f_X4_why f_X5_why
  by_cases h0 : v1 < 0
  · rw [if_pos h0, if_pos h0]
    exact ⟨_, _, rfl, rfl, rfl, hK, hS, hT, hP, hL, hI⟩
  rw [if_neg h0, if_neg h0, pu_in0c v2 1 (n := 2) (by decide) (by decide), Option.bind_some, pu_if]
  by_cases hm : inb v2 2 = true
  · obtain ⟨k, hk, rfl⟩ := inb_ex hm (by omega)
    rw [if_pos hm, if_neg (nI_pos (by omega)), if_pos (show nI k ≤ 1 from q_le (b := 1) (by omega) (by decide) (by omega))]
    obtain ⟨t0, t, ht, rfl, rfl, htt⟩ := id hT
    by_cases h1 : inb v1 t = true
    · obtain ⟨i, hi, rfl⟩ := inb_ex h1 (by omega)
      rw [if_pos (q_lt (by omega) (by omega) hi), if_pos (q_lt (by omega) (by omega) hi), if_pos (inb_t (by omega) (by omega)), if_pos (inb_t (by omega) (by omega)), if_pos (inb_t (by omega) (by omega)), if_pos (inb_t (by omega) (by omega)), nI_clamp (by omega), (htt i hi).1, (htt i hi).2]
      by_cases hk0 : nI k = 0
      · simp only [if_pos hk0]
        exact ⟨_, _, rfl, rfl, rfl, hK, hS, hT, hP, hL, hI⟩
      · simp only [if_neg hk0]
        exact ⟨_, _, rfl, rfl, rfl, hK, hS, hT, hP, hL, hI⟩
    · have hf := (inb_f (v := v1) (n := t) (by omega)).mp (Bool.eq_false_iff.mpr h1)
      have h2 : ¬ v1 < nI t := by
        rcases hf with h | h
        · exact absurd h h0
        · rw [Int32.le_iff_toInt_le] at h
          rw [Int32.lt_iff_toInt_lt]
          omega
      rw [if_neg h2, if_neg h2]
      exact ⟨_, _, rfl, rfl, rfl, hK, hS, hT, hP, hL, hI⟩
  · have hf := (inb_f (v := v2) (n := 2) (by omega)).mp (Bool.eq_false_iff.mpr hm)
    rw [if_neg hm]
    by_cases h1 : v2 < 0
    · rw [if_pos h1]
      exact ⟨_, _, rfl, rfl, rfl, hK, hS, hT, hP, hL, hI⟩
    · have h2 : ¬ v2 ≤ 1 := by
        rcases hf with h | h
        · exact absurd h h1
        · rw [Int32.le_iff_toInt_le] at h
          rw [Int32.le_iff_toInt_le]
          have a : (nI 2).toInt = 2 := by decide
          have b : (1 : Int32).toInt = 1 := by decide
          omega
      rw [if_neg h1, if_neg h2]
      exact ⟨_, _, rfl, rfl, rfl, hK, hS, hT, hP, hL, hI⟩
set_option maxRecDepth 4000 in
theorem op_wipe {zp : Int32} {ze : Int32} {zf : Int32} {zg : Int32} {zn : Int32} {aG : Nat → Int32} {aW : Nat → Int32} {aR : Nat → Int32} {aN : Nat → Int32} {aF : Nat → Int32} {lC : Nat → Int64} {lS : Nat → Int64} {lP : Nat → Int64} {lX : Nat → Int64} {ztc : Int32} {aTs : Nat → Int32} {aTn : Nat → Int32} {zoc : Int32} {aOs : Nat → Int32} {aOn : Nat → Int32} {aTp : Nat → Int32} {zln : Int32} {zpl : Int32} {zfa : Int32} {aSz : Nat → Int32} {zit : Int32} {zip : Int32} {zic : Int32} {zig : Int32} {M : Nat → Nat → Int64} {yp : Int32} {ye : Int32} {yg : Int32} {bPo : Nat → Int32} {bTb : Nat → Int32} {wSh : Nat → Int64} {wTe : Nat → Int64} {wNx : Nat → Int64} {bOs : Nat → Int32} {bOn : Nat → Int32} {yop : Int32} {bSo : Nat → Int32} {bNu : Nat → Int32} {ytr : Int32} {yiw : Int32} {wMa : Nat → Int64} {wPr : Nat → Int64} {bTp : Nat → Int32} {yln : Int32} {ypl : Int32} {yfa : Int32} {wLi : Nat → Int64} {bSi : Nat → Int32} {yhp : Int32} {yhe : Int32} {yhg : Int32} {wHs : Nat → Int64} {yhi : Int32} (h : Rel zp ze zf zg zn aG aW aR aN aF lC lS lP lX ztc aTs aTn zoc aOs aOn aTp zln zpl zfa aSz zit zip zic zig M yp ye yg bPo bTb wSh wTe wNx bOs bOn yop bSo bNu ytr yiw wMa wPr bTp yln ypl yfa wLi bSi yhp yhe yhg wHs yhi) : ∃ z1 z2, f_X4_wipe zln = some z1 ∧ f_X5_wipe yln = some z2 ∧ z1.1 = z2.1 ∧ Rel zp ze zf zg zn aG aW aR aN aF lC lS lP lX ztc aTs aTn zoc aOs aOn aTp z1.2 zpl zfa aSz zit zip zic zig M yp ye yg bPo bTb wSh wTe wNx bOs bOn yop bSo bNu ytr yiw wMa wPr bTp z2.2 ypl yfa wLi bSi yhp yhe yhg wHs yhi := by
  obtain ⟨hK, hS, hT, hP, hL, hI⟩ := h
  obtain ⟨P, E, g, hV, ⟨rfl, rfl, rfl, rfl, rfl⟩, hG, hW, hRa, hN, hF, hC, ⟨rfl, rfl, rfl⟩, hPo, hTb⟩ := hK
  have hK : RelK (nI P) (nI E) (nI ((P - 1) / E)) (nI g) (nI (gens P).length) aG aW aR aN aF lC (nI P) (nI E) (nI g) bPo bTb := ⟨P, E, g, hV, ⟨rfl, rfl, rfl, rfl, rfl⟩, hG, hW, hRa, hN, hF, hC, ⟨rfl, rfl, rfl⟩, hPo, hTb⟩
  have hb := hV.bd
  obtain ⟨n, hn, rfl, rfl, hc⟩ := hP
  exact ⟨_, _, rfl, rfl, rfl, hK, hS, hT, ⟨0, Nat.zero_le _, rfl, rfl, fun i hi => absurd hi (Nat.not_lt_zero i)⟩, hL, hI⟩
theorem byte_id : ∀ c, c < 127 → vp_nar .byte (nI c).toInt8.toInt32 = nI c := by decide +kernel
set_option maxRecDepth 4000 in
theorem op_feed {zp : Int32} {ze : Int32} {zf : Int32} {zg : Int32} {zn : Int32} {aG : Nat → Int32} {aW : Nat → Int32} {aR : Nat → Int32} {aN : Nat → Int32} {aF : Nat → Int32} {lC : Nat → Int64} {lS : Nat → Int64} {lP : Nat → Int64} {lX : Nat → Int64} {ztc : Int32} {aTs : Nat → Int32} {aTn : Nat → Int32} {zoc : Int32} {aOs : Nat → Int32} {aOn : Nat → Int32} {aTp : Nat → Int32} {zln : Int32} {zpl : Int32} {zfa : Int32} {aSz : Nat → Int32} {zit : Int32} {zip : Int32} {zic : Int32} {zig : Int32} {M : Nat → Nat → Int64} {yp : Int32} {ye : Int32} {yg : Int32} {bPo : Nat → Int32} {bTb : Nat → Int32} {wSh : Nat → Int64} {wTe : Nat → Int64} {wNx : Nat → Int64} {bOs : Nat → Int32} {bOn : Nat → Int32} {yop : Int32} {bSo : Nat → Int32} {bNu : Nat → Int32} {ytr : Int32} {yiw : Int32} {wMa : Nat → Int64} {wPr : Nat → Int64} {bTp : Nat → Int32} {yln : Int32} {ypl : Int32} {yfa : Int32} {wLi : Nat → Int64} {bSi : Nat → Int32} {yhp : Int32} {yhe : Int32} {yhg : Int32} {wHs : Nat → Int64} {yhi : Int32} (h : Rel zp ze zf zg zn aG aW aR aN aF lC lS lP lX ztc aTs aTn zoc aOs aOn aTp zln zpl zfa aSz zit zip zic zig M yp ye yg bPo bTb wSh wTe wNx bOs bOn yop bSo bNu ytr yiw wMa wPr bTp yln ypl yfa wLi bSi yhp yhe yhg wHs yhi) (v1 : Int32) : ∃ z1 z2, f_X4_feed aTp zln v1 = some z1 ∧ f_X5_feed bTp yln v1 = some z2 ∧ z1.1 = z2.1 ∧ Rel zp ze zf zg zn aG aW aR aN aF lC lS lP lX ztc aTs aTn zoc aOs aOn z1.2.1 z1.2.2 zpl zfa aSz zit zip zic zig M yp ye yg bPo bTb wSh wTe wNx bOs bOn yop bSo bNu ytr yiw wMa wPr z2.2.1 z2.2.2 ypl yfa wLi bSi yhp yhe yhg wHs yhi := by
  obtain ⟨hK, hS, hT, hP, hL, hI⟩ := h
  obtain ⟨P, E, g, hV, ⟨rfl, rfl, rfl, rfl, rfl⟩, hG, hW, hRa, hN, hF, hC, ⟨rfl, rfl, rfl⟩, hPo, hTb⟩ := hK
  have hK : RelK (nI P) (nI E) (nI ((P - 1) / E)) (nI g) (nI (gens P).length) aG aW aR aN aF lC (nI P) (nI E) (nI g) bPo bTb := ⟨P, E, g, hV, ⟨rfl, rfl, rfl, rfl, rfl⟩, hG, hW, hRa, hN, hF, hC, ⟨rfl, rfl, rfl⟩, hPo, hTb⟩
  have hb := hV.bd
  unfold f_X4_feed f_X5_feed
  obtain ⟨n, hn, rfl, rfl, hc⟩ := hP
  have hP : RelP aTp (nI n) bTp (nI n) := ⟨n, hn, rfl, rfl, hc⟩
  rw [pu_in]
  have a32 : (32 : Int32).toInt = 32 := by decide
  have a126 : (126 : Int32).toInt = 126 := by decide
  have b32 : (32 : Int64).toInt = 32 := by decide
  have b126 : (126 : Int64).toInt = 126 := by decide
  by_cases h0 : v1 < 32
  · have h1 : ¬ ((32 : Int64) ≤ v1.toInt64 ∧ v1.toInt64 ≤ 126) := by
      rw [Int64.le_iff_toInt_le, Int32.toInt_toInt64, b32]
      rw [Int32.lt_iff_toInt_lt, a32] at h0
      omega
    rw [if_pos h0, if_neg h1]
    exact ⟨_, _, rfl, rfl, rfl, hK, hS, hT, hP, hL, hI⟩
  · by_cases h2 : v1 ≤ 126
    · have h1 : ((32 : Int64) ≤ v1.toInt64 ∧ v1.toInt64 ≤ 126) := by
        rw [Int64.le_iff_toInt_le, Int64.le_iff_toInt_le, Int32.toInt_toInt64, b32, b126]
        rw [Int32.lt_iff_toInt_lt, a32] at h0
        rw [Int32.le_iff_toInt_le, a126] at h2
        omega
      obtain ⟨c, hc1, rfl⟩ := inb_ex (v := v1) (n := 127) (inb_iff.mpr (by
        rw [Int32.lt_iff_toInt_lt, a32] at h0
        rw [Int32.le_iff_toInt_le, a126] at h2
        omega)) (by decide)
      have hc2 : 32 ≤ c := by
        rw [Int32.lt_iff_toInt_lt, a32, nI_toInt (by omega)] at h0
        omega
      rw [if_neg h0, if_pos h2, if_pos h1, Option.bind_some]
      rcases Nat.lt_or_ge n 80 with q | q
      · have e80 : ¬ nI n = 80 := fun w => absurd ((q_eq (a := n) (b := 80) (by omega) (by decide)).mp w) (by omega)
        unfold f_X1_append
        simp only [if_pos (show nI n < 80 from q_lt (b := 80) (by omega) (by decide) q)]
        rw [if_pos (inb_t q (by omega)), Option.bind_some, if_neg (by decide), if_neg e80, if_pos (inb_t q (by omega)), nI_clamp (by omega), byte_id c hc1, q_s]
        refine ⟨_, _, rfl, rfl, rfl, hK, hS, hT, ⟨n + 1, by omega, rfl, rfl, fun i hi => ?_⟩, hL, hI⟩
        show ∃ c', _ ∧ _ ∧ upd aTp n (nI c) i = _ ∧ upd bTp n (nI c) i = _
        by_cases e : i = n
        · rw [e, pk_us, pk_us]
          exact ⟨c, hc2, by omega, rfl, rfl⟩
        · rw [pk_un e, pk_un e]
          exact hc i (by omega)
      · have e80 : n = 80 := by omega
        rw [if_neg (show ¬ nI n < 80 from q_nlt (b := 80) (by omega) (by decide) q), if_neg (by decide), if_pos (by rw [e80]; rfl)]
        exact ⟨_, _, rfl, rfl, rfl, hK, hS, hT, hP, hL, hI⟩
    · have h1 : ¬ ((32 : Int64) ≤ v1.toInt64 ∧ v1.toInt64 ≤ 126) := by
        rw [Int64.le_iff_toInt_le, Int64.le_iff_toInt_le, Int32.toInt_toInt64, b126]
        rw [Int32.le_iff_toInt_le, a126] at h2
        omega
      rw [if_neg h0, if_neg h2, if_neg h1]
      exact ⟨_, _, rfl, rfl, rfl, hK, hS, hT, hP, hL, hI⟩
theorem m1_nI {n : Nat} (h : n < 2 ^ 31) : ¬ nI n = -1 := fun w => by
  have := congrArg Int32.toInt w
  rw [nI_toInt h, show (-1 : Int32).toInt = -1 by decide] at this
  omega
set_option maxRecDepth 4000 in
theorem op_get {zp : Int32} {ze : Int32} {zf : Int32} {zg : Int32} {zn : Int32} {aG : Nat → Int32} {aW : Nat → Int32} {aR : Nat → Int32} {aN : Nat → Int32} {aF : Nat → Int32} {lC : Nat → Int64} {lS : Nat → Int64} {lP : Nat → Int64} {lX : Nat → Int64} {ztc : Int32} {aTs : Nat → Int32} {aTn : Nat → Int32} {zoc : Int32} {aOs : Nat → Int32} {aOn : Nat → Int32} {aTp : Nat → Int32} {zln : Int32} {zpl : Int32} {zfa : Int32} {aSz : Nat → Int32} {zit : Int32} {zip : Int32} {zic : Int32} {zig : Int32} {M : Nat → Nat → Int64} {yp : Int32} {ye : Int32} {yg : Int32} {bPo : Nat → Int32} {bTb : Nat → Int32} {wSh : Nat → Int64} {wTe : Nat → Int64} {wNx : Nat → Int64} {bOs : Nat → Int32} {bOn : Nat → Int32} {yop : Int32} {bSo : Nat → Int32} {bNu : Nat → Int32} {ytr : Int32} {yiw : Int32} {wMa : Nat → Int64} {wPr : Nat → Int64} {bTp : Nat → Int32} {yln : Int32} {ypl : Int32} {yfa : Int32} {wLi : Nat → Int64} {bSi : Nat → Int32} {yhp : Int32} {yhe : Int32} {yhg : Int32} {wHs : Nat → Int64} {yhi : Int32} (h : Rel zp ze zf zg zn aG aW aR aN aF lC lS lP lX ztc aTs aTn zoc aOs aOn aTp zln zpl zfa aSz zit zip zic zig M yp ye yg bPo bTb wSh wTe wNx bOs bOn yop bSo bNu ytr yiw wMa wPr bTp yln ypl yfa wLi bSi yhp yhe yhg wHs yhi) (v1 : Int32) (v2 : Int32) : ∃ z1 z2, f_X4_get aSz M v1 v2 = some z1 ∧ f_X5_get wLi bSi v1 v2 = some z2 ∧ z1 = z2 ∧ Rel zp ze zf zg zn aG aW aR aN aF lC lS lP lX ztc aTs aTn zoc aOs aOn aTp zln zpl zfa aSz zit zip zic zig M yp ye yg bPo bTb wSh wTe wNx bOs bOn yop bSo bNu ytr yiw wMa wPr bTp yln ypl yfa wLi bSi yhp yhe yhg wHs yhi := by
  obtain ⟨hK, hS, hT, hP, hL, hI⟩ := h
  obtain ⟨P, E, g, hV, ⟨rfl, rfl, rfl, rfl, rfl⟩, hG, hW, hRa, hN, hF, hC, ⟨rfl, rfl, rfl⟩, hPo, hTb⟩ := hK
  have hK : RelK (nI P) (nI E) (nI ((P - 1) / E)) (nI g) (nI (gens P).length) aG aW aR aN aF lC (nI P) (nI E) (nI g) bPo bTb := ⟨P, E, g, hV, ⟨rfl, rfl, rfl, rfl, rfl⟩, hG, hW, hRa, hN, hF, hC, ⟨rfl, rfl, rfl⟩, hPo, hTb⟩
  have hb := hV.bd
  unfold f_X4_get f_X5_get
  rw [pu_list4, pu_list5]
  simp only [Option.bind_some, pu_if]
  by_cases h1 : inb v1 3 = true
  · obtain ⟨t, ht, rfl⟩ := inb_ex h1 (by omega)
    obtain ⟨e1, h3⟩ := hL t ht
    simp only [if_pos h1]
    rw [nI_clamp (by omega), ← e1]
    rcases h3 with h3 | ⟨n, hn, h4, h5⟩
    · rw [h3]
      have e : f_X5_in v2.toInt64 0 ((-1 : Int32) - 1).toInt64 = some 0 := by
        rw [pu_in, if_neg]
        rw [Int64.le_iff_toInt_le, Int64.le_iff_toInt_le, Int32.toInt_toInt64, show (((-1 : Int32) - 1).toInt64).toInt = -2 by decide, show (0 : Int64).toInt = 0 by decide]
        omega
      rw [e, Option.bind_some, if_pos rfl]
      by_cases h0 : v2 < 0
      · rw [if_pos h0]
        exact ⟨_, _, rfl, rfl, rfl, hK, hS, hT, hP, hL, hI⟩
      · have h2 : ¬ v2 < -1 := by
          rw [Int32.lt_iff_toInt_lt] at h0
          rw [Int32.lt_iff_toInt_lt, show (-1 : Int32).toInt = -1 by decide]
          have : (0 : Int32).toInt = 0 := by decide
          omega
        rw [if_neg h0, if_neg h2]
        exact ⟨_, _, rfl, rfl, rfl, hK, hS, hT, hP, hL, hI⟩
    · rw [h4, pu_in0 v2 (nI n - 1) (n := n) (by omega) (pk_sub_toInt (b := 1) (by omega) (by decide))]
      simp only [Option.bind_some, pu_if]
      by_cases h6 : inb v2 n = true
      · obtain ⟨i, hi, rfl⟩ := inb_ex h6 (by omega)
        rw [if_neg (nI_pos (by omega)), if_pos (q_lt (by omega) (by omega) hi), rl_list ht, if_pos (inb_t (by omega) (by omega)), if_pos h6, pu_i15, if_pos (inb_t (by omega) (by omega)), nI_clamp (by omega), nI_clamp (by omega), h5 i hi]
        exact ⟨_, _, rfl, rfl, rfl, hK, hS, hT, hP, hL, hI⟩
      · have hf := (inb_f (v := v2) (n := n) (by omega)).mp (Bool.eq_false_iff.mpr h6)
        rw [if_neg h6]
        by_cases h0 : v2 < 0
        · rw [if_pos h0]
          exact ⟨_, _, rfl, rfl, rfl, hK, hS, hT, hP, hL, hI⟩
        · have h2 : ¬ v2 < nI n := by
            rcases hf with h | h
            · exact absurd h h0
            · rw [Int32.le_iff_toInt_le] at h
              rw [Int32.lt_iff_toInt_lt]
              omega
          rw [if_neg h0, if_neg h2]
          exact ⟨_, _, rfl, rfl, rfl, hK, hS, hT, hP, hL, hI⟩
  · simp only [if_neg h1]
    exact ⟨_, _, rfl, rfl, rfl, hK, hS, hT, hP, hL, hI⟩

