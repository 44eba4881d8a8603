/-! LISTS and counts -/
theorem relS_low {E : Nat} {M M' : Nat → Nat → Int64} {wSh : Nat → Int64} (hE : E ≤ 12) (h : RelS (nI E) M wSh) (hM : ∀ r, r < 4 → M' r = M r) : RelS (nI E) M' wSh := by
  rw [relS_iff (by omega)] at h ⊢
  intro s i hs hi
  rw [hM s hs]
  exact h s i hs hi
theorem relI_hi {zit zip zic zig : Int32} {M M' : Nat → Nat → Int64} {yhp yhe yhg : Int32} {wHs : Nat → Int64} {yhi : Int32} (hM : ∀ r, 7 ≤ r → r < 11 → M' r = M r) (h : RelI zit zip zic zig M yhp yhe yhg wHs yhi) : RelI zit zip zic zig M' yhp yhe yhg wHs yhi := by
  obtain ⟨h1, h2⟩ := h
  refine ⟨h1, ?_⟩
  rcases h2 with h2 | ⟨h3, P, E, g, a, b, c, d, e, f, k, h4⟩
  · exact Or.inl h2
  · exact Or.inr ⟨h3, P, E, g, a, b, c, d, e, f, k, fun s i hs hi => by
      have hb := a.bd
      rw [hM _ (by omega) (by omega)]
      exact h4 s i hs hi⟩
set_option maxRecDepth 4000 in
theorem op_lay {zp : Int32} {ze : Int32} {zf : Int32} {zg : Int32} {zn : Int32} {aG : Nat → Int32} {aW : Nat → Int32} {aR : Nat → Int32} {aN : Nat → Int32} {aF : Nat → Int32} {lC : Nat → Int64} {lS : Nat → Int64} {lP : Nat → Int64} {lX : Nat → Int64} {ztc : Int32} {aTs : Nat → Int32} {aTn : Nat → Int32} {zoc : Int32} {aOs : Nat → Int32} {aOn : Nat → Int32} {aTp : Nat → Int32} {zln : Int32} {zpl : Int32} {zfa : Int32} {aSz : Nat → Int32} {zit : Int32} {zip : Int32} {zic : Int32} {zig : Int32} {M : Nat → Nat → Int64} {yp : Int32} {ye : Int32} {yg : Int32} {bPo : Nat → Int32} {bTb : Nat → Int32} {wSh : Nat → Int64} {wTe : Nat → Int64} {wNx : Nat → Int64} {bOs : Nat → Int32} {bOn : Nat → Int32} {yop : Int32} {bSo : Nat → Int32} {bNu : Nat → Int32} {ytr : Int32} {yiw : Int32} {wMa : Nat → Int64} {wPr : Nat → Int64} {bTp : Nat → Int32} {yln : Int32} {ypl : Int32} {yfa : Int32} {wLi : Nat → Int64} {bSi : Nat → Int32} {yhp : Int32} {yhe : Int32} {yhg : Int32} {wHs : Nat → Int64} {yhi : Int32} (h : Rel zp ze zf zg zn aG aW aR aN aF lC lS lP lX ztc aTs aTn zoc aOs aOn aTp zln zpl zfa aSz zit zip zic zig M yp ye yg bPo bTb wSh wTe wNx bOs bOn yop bSo bNu ytr yiw wMa wPr bTp yln ypl yfa wLi bSi yhp yhe yhg wHs yhi) (v1 : Int32) (v2 : Int32) (v3 : Int64) : ∃ z1 z2, f_X4_lay aSz M v1 v2 v3 = some z1 ∧ f_X5_lay wLi bSi v1 v2 v3 = some z2 ∧ z1.1 = z2.1 ∧ Rel zp ze zf zg zn aG aW aR aN aF lC lS lP lX ztc aTs aTn zoc aOs aOn aTp zln zpl zfa aSz zit zip zic zig z1.2 yp ye yg bPo bTb wSh wTe wNx bOs bOn yop bSo bNu ytr yiw wMa wPr bTp yln ypl yfa z2.2 bSi yhp yhe yhg wHs yhi := by
  obtain ⟨hK, hS, hT, hP, hL, hI⟩ := h
  obtain ⟨P, E, g, hV, ⟨rfl, rfl, rfl, rfl, rfl⟩, hG, hW, hRa, hN, hF, hC, ⟨rfl, rfl, rfl⟩, hPo, hTb⟩ := hK
  have hK : RelK (nI P) (nI E) (nI ((P - 1) / E)) (nI g) (nI (gens P).length) aG aW aR aN aF lC (nI P) (nI E) (nI g) bPo bTb := ⟨P, E, g, hV, ⟨rfl, rfl, rfl, rfl, rfl⟩, hG, hW, hRa, hN, hF, hC, ⟨rfl, rfl, rfl⟩, hPo, hTb⟩
  have hb := hV.bd
  unfold f_X4_lay f_X5_lay
  simp only [pu_list4, pu_list5, Option.bind_some, pu_if]
  by_cases h1 : inb v1 3 = true
  · obtain ⟨t, ht, rfl⟩ := inb_ex h1 (by omega)
    obtain ⟨e1, h3⟩ := hL t ht
    simp only [if_pos h1]
    rw [nI_clamp (by omega), ← e1]
    rcases h3 with h3 | ⟨n, hn, h4, h5⟩
    · rw [h3, if_neg (by decide), if_pos rfl]
      exact ⟨_, _, rfl, rfl, rfl, hK, hS, hT, hP, hL, hI⟩
    · rw [h4, if_pos (nI_pos' (by omega)), if_neg (m1_nI (by omega)), pu_in0 v2 (nI n - 1) (n := n) (by omega) (pk_sub_toInt (b := 1) (by omega) (by decide))]
      simp only [Option.bind_some, pu_if]
      by_cases h6 : inb v2 n = true
      · obtain ⟨i, hi, rfl⟩ := inb_ex h6 (by omega)
        have a1 : inb (nI i) 15 = true := inb_t (by omega) (by omega)
        have a2 : inb (nI (15 * t + i)) 45 = true := inb_t (by omega) (by omega)
        simp only [if_neg (nI_pos (show i < 2 ^ 31 by omega)), if_pos (q_lt (show i < 2 ^ 31 by omega) (show n < 2 ^ 31 by omega) hi), rl_list ht, if_pos a1, if_pos h6, pu_i15, if_pos a2, nI_clamp (show i < 2 ^ 31 by omega), nI_clamp (show 15 * t + i < 2 ^ 31 by omega)]
        refine ⟨_, _, rfl, rfl, rfl, hK, relS_low (by omega) hS (fun r hr => up_n _ _ (by omega)), hT, hP, ?_, relI_hi (fun r hr1 hr2 => up_n _ _ (by omega)) hI⟩
        intro t2 ht2
        obtain ⟨b1, b2⟩ := hL t2 ht2
        refine ⟨b1, b2.imp id (fun ⟨m, c, d, e⟩ => ⟨m, c, d, fun j hj => ?_⟩)⟩
        show va_up M (4 + t) _ (4 + t2) j = vp_updL wLi (15 * t + i) v3 (15 * t2 + j)
        by_cases g1 : t2 = t
        · rw [g1, up_s]
          by_cases g2 : j = i
          · rw [g2, vL_s, vL_s]
          · rw [vL_n g2, vL_n (by omega), ← g1]
            exact e j hj
        · rw [up_n _ _ (by omega), vL_n (by omega)]
          exact e j hj
      · have hf := (inb_f (v := v2) (n := n) (by omega)).mp (Bool.eq_false_iff.mpr h6)
        rw [if_neg h6]
        by_cases h0 : v2 < 0
        · rw [if_pos h0]
          exact ⟨_, _, rfl, rfl, rfl, hK, hS, hT, hP, hL, hI⟩
        · have h2 : ¬ v2 < nI n := by
            rcases hf with h | h
            · exact absurd h h0
            · rw [Int32.le_iff_toInt_le] at h
              rw [Int32.lt_iff_toInt_lt]
              omega
          rw [if_neg h0, if_neg h2]
          exact ⟨_, _, rfl, rfl, rfl, hK, hS, hT, hP, hL, hI⟩
  · simp only [if_neg h1]
    exact ⟨_, _, rfl, rfl, rfl, hK, hS, hT, hP, hL, hI⟩
theorem lp_li {t n : Nat} (ht : t < 3) (hn : n ≤ 15) (aSz : Nat → Int32) (M0 : Nat → Nat → Int64) : ∀ (fu k : Nat) (M : Nat → Nat → Int64), k ≤ n → n - k < fu → (∀ i, i < k → M (4 + t) i = 0) → (∀ r, r ≠ 4 + t → M r = M0 r) →
    ∃ M', f_X4_list_L35 (nI t) (nI n) fu aSz M (nI k) = some (1, aSz, M') ∧ (∀ i, i < n → M' (4 + t) i = 0) ∧ ∀ r, r ≠ 4 + t → M' r = M0 r := by
  intro fu
  induction fu with
  | zero => intro k wMa h1 h2; exact absurd h2 (Nat.not_lt_zero _)
  | succ fu ih =>
    intro k M h1 h2 hA hB
    rw [f_X4_list_L35]
    rcases Nat.lt_or_ge k n with q | q
    · have n1 : ¬ nI n ≤ nI k := q_nle (by omega) (by omega) q
      have a1 : inb (nI t) 3 = true := inb_t ht (by omega)
      have a2 : inb (nI k) 15 = true := inb_t (by omega) (by omega)
      simp only [if_neg n1, if_pos a1, nI_clamp (show t < 2 ^ 31 by omega), rl_list ht, if_pos a2, nI_clamp (show k < 2 ^ 31 by omega), q_s]
      refine ih (k + 1) _ (by omega) (by omega) (fun i hi => ?_) (fun r hr => by rw [up_n _ _ hr]; exact hB r hr)
      rw [up_s]
      by_cases e : i = k
      · rw [e, vL_s]
      · rw [vL_n e]
        exact hA i (by omega)
    · rw [if_pos (q_le (by omega) (by omega) q)]
      exact ⟨M, rfl, fun i hi => hA i (by omega), hB⟩
theorem lp_be5 {t : Nat} (ht : t < 3) (v2 : Int32) (bSi : Nat → Int32) (wL0 : Nat → Int64) : ∀ (fu k : Nat) (wLi : Nat → Int64), k ≤ 15 → 15 - k < fu → (∀ i, i < k → wLi (15 * t + i) = 0) → (∀ j, (∀ i, i < 15 → j ≠ 15 * t + i) → wLi j = wL0 j) →
    ∃ wLi', f_X5_becomes_L9 (nI t) v2 fu wLi bSi (nI k) = some (wLi', bSi) ∧ (∀ i, i < 15 → wLi' (15 * t + i) = 0) ∧ ∀ j, (∀ i, i < 15 → j ≠ 15 * t + i) → wLi' j = wL0 j := by
  intro fu
  induction fu with
  | zero => intro k wMa h1 h2; exact absurd h2 (Nat.not_lt_zero _)
  | succ fu ih =>
    intro k wLi h1 h2 hA hB
    rw [f_X5_becomes_L9]
    rcases Nat.lt_or_ge k 15 with q | q
    · have n1 : ¬ (15 : Int32) ≤ nI k := q_nle (a := 15) (by omega) (by omega) q
      have a2 : inb (nI (15 * t + k)) 45 = true := inb_t (by omega) (by omega)
      simp only [if_neg n1, pu_i15, if_pos a2, nI_clamp (show 15 * t + k < 2 ^ 31 by omega), q_s]
      refine ih (k + 1) _ (by omega) (by omega) (fun i hi => ?_) (fun j hj => by rw [vL_n (hj k q)]; exact hB j hj)
      by_cases e : i = k
      · rw [e, vL_s]
      · rw [vL_n (by omega)]
        exact hA i (by omega)
    · rw [if_pos (show (15 : Int32) ≤ nI k from q_le (a := 15) (by omega) (by omega) q)]
      exact ⟨wLi, rfl, fun i hi => hA i (by omega), hB⟩
theorem becomes_ok {t : Nat} (ht : t < 3) (wLi : Nat → Int64) (bSi : Nat → Int32) (v2 : Int32) : ∃ wLi', f_X5_becomes wLi bSi (nI t) v2 = some (wLi', upd bSi t v2) ∧ (∀ i, i < 15 → wLi' (15 * t + i) = 0) ∧ ∀ j, (∀ i, i < 15 → j ≠ 15 * t + i) → wLi' j = wLi j := by
  unfold f_X5_becomes
  rw [if_pos (inb_t ht (by omega)), nI_clamp (by omega)]
  exact lp_be5 ht v2 (upd bSi t v2) wLi FU 0 wLi (Nat.zero_le _) (by show _ < 2000; omega) (fun h hh => absurd hh (Nat.not_lt_zero _)) (fun _ _ => rfl)
theorem relL_put {t n : Nat} (ht : t < 3) (hn : n ≤ 15) {aSz bSi : Nat → Int32} {M M' : Nat → Nat → Int64} {wLi wLi' : Nat → Int64} (h : RelL aSz M wLi bSi) (hO : ∀ r, r < 7 → r ≠ 4 + t → M' r = M r) (hF : ∀ j, (∀ i, i < 15 → j ≠ 15 * t + i) → wLi' j = wLi j) (hM : ∀ i, i < n → M' (4 + t) i = wLi' (15 * t + i)) : RelL (upd aSz t (nI n)) M' wLi' (upd bSi t (nI n)) := by
  intro t2 ht2
  by_cases e : t2 = t
  · rw [e, pk_us, pk_us]
    exact ⟨rfl, Or.inr ⟨n, hn, rfl, hM⟩⟩
  · rw [pk_un e, pk_un e]
    obtain ⟨b1, b2⟩ := h t2 ht2
    refine ⟨b1, b2.imp id (fun ⟨m, c, d, f⟩ => ⟨m, c, d, fun j hj => ?_⟩)⟩
    rw [hO _ (by omega) (by omega), hF _ (fun i hi => by omega)]
    exact f j hj
set_option maxRecDepth 4000 in
theorem op_list {zp : Int32} {ze : Int32} {zf : Int32} {zg : Int32} {zn : Int32} {aG : Nat → Int32} {aW : Nat → Int32} {aR : Nat → Int32} {aN : Nat → Int32} {aF : Nat → Int32} {lC : Nat → Int64} {lS : Nat → Int64} {lP : Nat → Int64} {lX : Nat → Int64} {ztc : Int32} {aTs : Nat → Int32} {aTn : Nat → Int32} {zoc : Int32} {aOs : Nat → Int32} {aOn : Nat → Int32} {aTp : Nat → Int32} {zln : Int32} {zpl : Int32} {zfa : Int32} {aSz : Nat → Int32} {zit : Int32} {zip : Int32} {zic : Int32} {zig : Int32} {M : Nat → Nat → Int64} {yp : Int32} {ye : Int32} {yg : Int32} {bPo : Nat → Int32} {bTb : Nat → Int32} {wSh : Nat → Int64} {wTe : Nat → Int64} {wNx : Nat → Int64} {bOs : Nat → Int32} {bOn : Nat → Int32} {yop : Int32} {bSo : Nat → Int32} {bNu : Nat → Int32} {ytr : Int32} {yiw : Int32} {wMa : Nat → Int64} {wPr : Nat → Int64} {bTp : Nat → Int32} {yln : Int32} {ypl : Int32} {yfa : Int32} {wLi : Nat → Int64} {bSi : Nat → Int32} {yhp : Int32} {yhe : Int32} {yhg : Int32} {wHs : Nat → Int64} {yhi : Int32} (h : Rel zp ze zf zg zn aG aW aR aN aF lC lS lP lX ztc aTs aTn zoc aOs aOn aTp zln zpl zfa aSz zit zip zic zig M yp ye yg bPo bTb wSh wTe wNx bOs bOn yop bSo bNu ytr yiw wMa wPr bTp yln ypl yfa wLi bSi yhp yhe yhg wHs yhi) (v1 : Int32) (v2 : Int32) : ∃ z1 z2, f_X4_list aSz M v1 v2 = some z1 ∧ f_X5_list wLi bSi v1 v2 = some z2 ∧ z1.1 = z2.1 ∧ Rel zp ze zf zg zn aG aW aR aN aF lC lS lP lX ztc aTs aTn zoc aOs aOn aTp zln zpl zfa z1.2.1 zit zip zic zig z1.2.2 yp ye yg bPo bTb wSh wTe wNx bOs bOn yop bSo bNu ytr yiw wMa wPr bTp yln ypl yfa z2.2.1 z2.2.2 yhp yhe yhg wHs yhi := by
  obtain ⟨hK, hS, hT, hP, hL, hI⟩ := h
  obtain ⟨P, E, g, hV, ⟨rfl, rfl, rfl, rfl, rfl⟩, hG, hW, hRa, hN, hF, hC, ⟨rfl, rfl, rfl⟩, hPo, hTb⟩ := hK
  have hK : RelK (nI P) (nI E) (nI ((P - 1) / E)) (nI g) (nI (gens P).length) aG aW aR aN aF lC (nI P) (nI E) (nI g) bPo bTb := ⟨P, E, g, hV, ⟨rfl, rfl, rfl, rfl, rfl⟩, hG, hW, hRa, hN, hF, hC, ⟨rfl, rfl, rfl⟩, hPo, hTb⟩
  have hb := hV.bd
  unfold f_X4_list f_X5_list
  simp only [pu_list4, pu_list5, Option.bind_some, pu_if]
  by_cases h1 : inb v1 3 = true
  · obtain ⟨t, ht, rfl⟩ := inb_ex h1 (by omega)
    simp only [if_pos h1]
    by_cases h2 : v2 ≤ 15
    · rw [if_pos h2, if_pos h2]
      by_cases h3 : -1 ≤ v2
      · rw [if_pos h3, if_pos h3, nI_clamp (by omega)]
        obtain ⟨wLi', e1, h4, h5⟩ := becomes_ok ht wLi bSi v2
        rw [e1, Option.bind_some]
        by_cases h6 : v2 = -1
        · subst h6
          have hL2 : RelL (upd aSz t (-1)) M wLi' (upd bSi t (-1)) := by
            intro t2 ht2
            by_cases e : t2 = t
            · rw [e, pk_us, pk_us]
              exact ⟨rfl, Or.inl rfl⟩
            · rw [pk_un e, pk_un e]
              obtain ⟨b1, b2⟩ := hL t2 ht2
              refine ⟨b1, b2.imp id (fun ⟨m, c, d, f⟩ => ⟨m, c, d, fun j hj => ?_⟩)⟩
              rw [h5 _ (fun i hi => by omega)]
              exact f j hj
          exact ⟨(1, upd aSz t (-1), M), _, rfl, rfl, rfl, hK, hS, hT, hP, hL2, hI⟩
        · have h7 : ¬ v2 < 0 := fun w => by
            rw [Int32.lt_iff_toInt_lt] at w
            rw [Int32.le_iff_toInt_le] at h3
            have a : (0 : Int32).toInt = 0 := by decide
            have b : (-1 : Int32).toInt = -1 := by decide
            exact h6 (Int32.toInt_inj.mp (by omega))
          obtain ⟨n, hn, rfl⟩ := nI_of2 (M := 15) (n := 15) (by decide) h7 h2
          obtain ⟨M', e2, h8, h9⟩ := lp_li ht hn (upd aSz t (nI n)) M FU 0 M (Nat.zero_le _) (by show _ < 2000; omega) (fun h hh => absurd hh (Nat.not_lt_zero _)) (fun _ _ => rfl)
          have e2 : f_X4_list_L35 (nI t) (nI n) FU (upd aSz t (nI n)) M 0 = some (1, upd aSz t (nI n), M') := e2
          rw [e2]
          exact ⟨_, _, rfl, rfl, rfl, hK, relS_low (by omega) hS (fun r hr => h9 r (by omega)), hT, hP, relL_put ht hn hL (fun r hr1 hr2 => h9 r hr2) h5 (fun i hi => (h8 i hi).trans (h4 i (by omega)).symm), relI_hi (fun r hr1 hr2 => h9 r (by omega)) hI⟩
      · rw [if_neg h3, if_neg h3]
        exact ⟨_, _, rfl, rfl, rfl, hK, hS, hT, hP, hL, hI⟩
    · rw [if_neg h2, if_neg h2]
      exact ⟨_, _, rfl, rfl, rfl, hK, hS, hT, hP, hL, hI⟩
  · simp only [if_neg h1]
    exact ⟨_, _, rfl, rfl, rfl, hK, hS, hT, hP, hL, hI⟩
theorem q_15 (r : Nat) : 15 * nI r = nI (15 * r) := pk_mul 15 r
set_option maxRecDepth 4000 in
theorem op_film {zp : Int32} {ze : Int32} {zf : Int32} {zg : Int32} {zn : Int32} {aG : Nat → Int32} {aW : Nat → Int32} {aR : Nat → Int32} {aN : Nat → Int32} {aF : Nat → Int32} {lC : Nat → Int64} {lS : Nat → Int64} {lP : Nat → Int64} {lX : Nat → Int64} {ztc : Int32} {aTs : Nat → Int32} {aTn : Nat → Int32} {zoc : Int32} {aOs : Nat → Int32} {aOn : Nat → Int32} {aTp : Nat → Int32} {zln : Int32} {zpl : Int32} {zfa : Int32} {aSz : Nat → Int32} {zit : Int32} {zip : Int32} {zic : Int32} {zig : Int32} {M : Nat → Nat → Int64} {yp : Int32} {ye : Int32} {yg : Int32} {bPo : Nat → Int32} {bTb : Nat → Int32} {wSh : Nat → Int64} {wTe : Nat → Int64} {wNx : Nat → Int64} {bOs : Nat → Int32} {bOn : Nat → Int32} {yop : Int32} {bSo : Nat → Int32} {bNu : Nat → Int32} {ytr : Int32} {yiw : Int32} {wMa : Nat → Int64} {wPr : Nat → Int64} {bTp : Nat → Int32} {yln : Int32} {ypl : Int32} {yfa : Int32} {wLi : Nat → Int64} {bSi : Nat → Int32} {yhp : Int32} {yhe : Int32} {yhg : Int32} {wHs : Nat → Int64} {yhi : Int32} (h : Rel zp ze zf zg zn aG aW aR aN aF lC lS lP lX ztc aTs aTn zoc aOs aOn aTp zln zpl zfa aSz zit zip zic zig M yp ye yg bPo bTb wSh wTe wNx bOs bOn yop bSo bNu ytr yiw wMa wPr bTp yln ypl yfa wLi bSi yhp yhe yhg wHs yhi) (v1 : Int32) (v2 : Int32) : ∃ z1 z2, f_X4_film ze aSz M v1 v2 = some z1 ∧ f_X5_film ye wSh wLi bSi v1 v2 = some z2 ∧ z1.1 = z2.1 ∧ Rel zp ze zf zg zn aG aW aR aN aF lC lS lP lX ztc aTs aTn zoc aOs aOn aTp zln zpl zfa z1.2.1 zit zip zic zig z1.2.2 yp ye yg bPo bTb wSh wTe wNx bOs bOn yop bSo bNu ytr yiw wMa wPr bTp yln ypl yfa z2.2.1 z2.2.2 yhp yhe yhg wHs yhi := by
  obtain ⟨hK, hS, hT, hP, hL, hI⟩ := h
  obtain ⟨P, E, g, hV, ⟨rfl, rfl, rfl, rfl, rfl⟩, hG, hW, hRa, hN, hF, hC, ⟨rfl, rfl, rfl⟩, hPo, hTb⟩ := hK
  have hK : RelK (nI P) (nI E) (nI ((P - 1) / E)) (nI g) (nI (gens P).length) aG aW aR aN aF lC (nI P) (nI E) (nI g) bPo bTb := ⟨P, E, g, hV, ⟨rfl, rfl, rfl, rfl, rfl⟩, hG, hW, hRa, hN, hF, hC, ⟨rfl, rfl, rfl⟩, hPo, hTb⟩
  have hb := hV.bd
  unfold f_X4_film f_X5_film
  simp only [pu_list4, pu_list5, pu_shelf4, pu_shelf5, Option.bind_some, pu_if]
  by_cases h1 : inb v1 3 = true
  · by_cases h2 : inb v2 4 = true
    · obtain ⟨t, ht, rfl⟩ := inb_ex h1 (by omega)
      obtain ⟨s, hs, rfl⟩ := inb_ex h2 (by omega)
      obtain ⟨wLi', e1, h4, h5⟩ := becomes_ok ht wLi bSi (nI E)
      have c1 : cpk (nI (12 * s)) (nI (15 * t)) (nI E) 48 45 = true := cpk_ok (by omega) (by omega) (by decide) (by decide)
      simp only [if_pos h1, if_pos h2, nI_clamp (show t < 2 ^ 31 by omega), nI_clamp (show s < 2 ^ 31 by omega), Nat.zero_add, e1, Option.bind_some, q_12, q_15, if_pos c1, nI_clamp (show 12 * s < 2 ^ 31 by omega), nI_clamp (show 15 * t < 2 ^ 31 by omega), nI_clamp (show E < 2 ^ 31 by omega), copyRow_ok (show 4 + t ≠ s by omega) M]
      refine ⟨_, _, rfl, rfl, rfl, hK, relS_low (by omega) hS (fun r hr => up_n _ _ (by omega)), hT, hP, relL_put ht (by omega) hL (fun r hr1 hr2 => up_n _ _ hr2) (fun j hj => ?_) (fun i hi => ?_), relI_hi (fun r hr1 hr2 => up_n _ _ (by omega)) hI⟩
      · show va_cpy wSh wLi' (12 * s) (15 * t) E j = wLi j
        rw [pk_cpy_out ?_, h5 j hj]
        by_cases a : j < 15 * t
        · exact Or.inl a
        · exact Or.inr (Nat.not_lt.mp fun q => hj (j - 15 * t) (by omega) (by omega))
      · show va_up M (4 + t) _ (4 + t) i = va_cpy wSh wLi' (12 * s) (15 * t) E (15 * t + i)
        rw [up_s, cpr_in (by omega), pk_cpy_in (by omega) (by omega), show 12 * s + (15 * t + i - 15 * t) = 12 * s + i by omega]
        exact (relS_iff (by omega) M wSh).mp hS s i hs hi
    · simp only [if_pos h1, if_neg h2]
      exact ⟨_, _, rfl, rfl, rfl, hK, hS, hT, hP, hL, hI⟩
  · simp only [if_neg h1]
    exact ⟨_, _, rfl, rfl, rfl, hK, hS, hT, hP, hL, hI⟩
theorem lp_ju {P E g t n i : Nat} (hV : Vd P E g) {bPo : Nat → Int32} (hW : PW P g bPo) {aN : Nat → Int32} (hN : ∀ i j, i < E → j < E → aN (12 * i + j) = nI (bes P E g i j)) (ht : t < 3) (hn : n ≤ 15) (hi : i < E) {aSz bSi : Nat → Int32} (hz : bSi t = nI n) {M : Nat → Nat → Int64} {wLi : Nat → Int64} (hM : ∀ k, k < n → M (4 + t) k = wLi (15 * t + k)) : ∀ (fu k : Nat), k ≤ n → n - k < fu →
    ∃ r, f_X4_judge_L34 (nI E) aN aSz M (nI t) (nI i) fu (nI n) (nI k) = some r ∧ f_X5_judge_L32 (nI P) (nI E) bPo wLi bSi (nI t) (nI i) fu (nI k) = some r := by
  have hb := hV.bd
  intro fu
  induction fu with
  | zero => intro k h1 h2; exact absurd h2 (Nat.not_lt_zero _)
  | succ fu ih =>
    intro k h1 h2
    rw [f_X4_judge_L34, f_X5_judge_L32]
    have a1 : inb (nI t) 3 = true := inb_t ht (by omega)
    simp only [if_pos a1, nI_clamp (show t < 2 ^ 31 by omega), hz]
    rcases Nat.lt_or_ge k n with q | q
    · have n1 : ¬ nI n ≤ nI k := q_nle (by omega) (by omega) q
      rw [if_neg n1, if_neg n1]
      rcases Nat.lt_or_ge k E with p | p
      · have n2 : ¬ nI E ≤ nI k := q_nle (by omega) (by omega) p
        have a2 : inb (nI k) 15 = true := inb_t (by omega) (by omega)
        have a3 : inb (nI (12 * i + k)) 144 = true := inb_t (by omega) (by omega)
        have a4 : inb (nI (15 * t + k)) 45 = true := inb_t (by omega) (by omega)
        simp only [if_neg n2, rl_list ht, if_pos a2, q_ix12, if_pos a3, pu_i15, if_pos a4, nI_clamp (show k < 2 ^ 31 by omega), nI_clamp (show 12 * i + k < 2 ^ 31 by omega), nI_clamp (show 15 * t + k < 2 ^ 31 by omega), besideOf_ok hV hW (show i < 12 by omega) (show k < 12 by omega), Option.bind_some, hN i k hi p, hM k q, q_s]
        by_cases e : lg_cmp (wLi (15 * t + k)) (nI (bes P E g i k)).toInt64 = 0
        · rw [if_pos e, if_pos e]
          exact ih (k + 1) (by omega) (by omega)
        · rw [if_neg e, if_neg e]
          exact ⟨_, rfl, rfl⟩
      · rw [if_pos (q_le (by omega) (by omega) p), if_pos (q_le (by omega) (by omega) p)]
        exact ⟨_, rfl, rfl⟩
    · rw [if_pos (q_le (by omega) (by omega) q), if_pos (q_le (by omega) (by omega) q)]
      by_cases e : nI E ≤ nI n
      · simp only [if_pos e]
        exact ⟨_, rfl, rfl⟩
      · simp only [if_neg e]
        exact ⟨_, rfl, rfl⟩
set_option maxRecDepth 4000 in
theorem op_judge {zp : Int32} {ze : Int32} {zf : Int32} {zg : Int32} {zn : Int32} {aG : Nat → Int32} {aW : Nat → Int32} {aR : Nat → Int32} {aN : Nat → Int32} {aF : Nat → Int32} {lC : Nat → Int64} {lS : Nat → Int64} {lP : Nat → Int64} {lX : Nat → Int64} {ztc : Int32} {aTs : Nat → Int32} {aTn : Nat → Int32} {zoc : Int32} {aOs : Nat → Int32} {aOn : Nat → Int32} {aTp : Nat → Int32} {zln : Int32} {zpl : Int32} {zfa : Int32} {aSz : Nat → Int32} {zit : Int32} {zip : Int32} {zic : Int32} {zig : Int32} {M : Nat → Nat → Int64} {yp : Int32} {ye : Int32} {yg : Int32} {bPo : Nat → Int32} {bTb : Nat → Int32} {wSh : Nat → Int64} {wTe : Nat → Int64} {wNx : Nat → Int64} {bOs : Nat → Int32} {bOn : Nat → Int32} {yop : Int32} {bSo : Nat → Int32} {bNu : Nat → Int32} {ytr : Int32} {yiw : Int32} {wMa : Nat → Int64} {wPr : Nat → Int64} {bTp : Nat → Int32} {yln : Int32} {ypl : Int32} {yfa : Int32} {wLi : Nat → Int64} {bSi : Nat → Int32} {yhp : Int32} {yhe : Int32} {yhg : Int32} {wHs : Nat → Int64} {yhi : Int32} (h : Rel zp ze zf zg zn aG aW aR aN aF lC lS lP lX ztc aTs aTn zoc aOs aOn aTp zln zpl zfa aSz zit zip zic zig M yp ye yg bPo bTb wSh wTe wNx bOs bOn yop bSo bNu ytr yiw wMa wPr bTp yln ypl yfa wLi bSi yhp yhe yhg wHs yhi) (v1 : Int32) (v2 : Int32) : ∃ z1 z2, f_X4_judge ze aN aSz M v1 v2 = some z1 ∧ f_X5_judge yp ye bPo wLi bSi v1 v2 = some z2 ∧ z1 = z2 ∧ Rel zp ze zf zg zn aG aW aR aN aF lC lS lP lX ztc aTs aTn zoc aOs aOn aTp zln zpl zfa aSz zit zip zic zig M yp ye yg bPo bTb wSh wTe wNx bOs bOn yop bSo bNu ytr yiw wMa wPr bTp yln ypl yfa wLi bSi yhp yhe yhg wHs yhi := by
  obtain ⟨hK, hS, hT, hP, hL, hI⟩ := h
  obtain ⟨P, E, g, hV, ⟨rfl, rfl, rfl, rfl, rfl⟩, hG, hW, hRa, hN, hF, hC, ⟨rfl, rfl, rfl⟩, hPo, hTb⟩ := hK
  have hK : RelK (nI P) (nI E) (nI ((P - 1) / E)) (nI g) (nI (gens P).length) aG aW aR aN aF lC (nI P) (nI E) (nI g) bPo bTb := ⟨P, E, g, hV, ⟨rfl, rfl, rfl, rfl, rfl⟩, hG, hW, hRa, hN, hF, hC, ⟨rfl, rfl, rfl⟩, hPo, hTb⟩
  have hb := hV.bd
  unfold f_X4_judge f_X5_judge
  simp only [pu_list4, pu_list5, pu_cls4 (show E < 2 ^ 31 by omega), pu_cls5 hb.2.2.1 (show E < 2 ^ 30 by omega), Option.bind_some, pu_if]
  by_cases h1 : inb v1 3 = true
  · by_cases h2 : inb v2 E = true
    · obtain ⟨t, ht, rfl⟩ := inb_ex h1 (by omega)
      obtain ⟨i, hi, rfl⟩ := inb_ex h2 (by omega)
      obtain ⟨e1, h3⟩ := hL t ht
      simp only [if_pos h1, if_pos h2, nI_clamp (show t < 2 ^ 31 by omega)]
      rcases h3 with h3 | ⟨n, hn, h4, h5⟩
      · rw [← e1, h3, if_neg (by decide), if_pos rfl]
        exact ⟨_, _, rfl, rfl, rfl, hK, hS, hT, hP, hL, hI⟩
      · have h6 : bSi t = nI n := e1 ▸ h4
        rw [h6, h4, if_pos (nI_pos' (by omega)), if_neg (m1_nI (by omega))]
        obtain ⟨r, e2, e3⟩ := lp_ju hV hPo hN ht hn hi (aSz := aSz) h6 h5 FU 0 (Nat.zero_le _) (by show _ < 2000; omega)
        exact ⟨r, r, e2, e3, rfl, hK, hS, hT, hP, hL, hI⟩
    · simp only [if_pos h1, if_neg h2]
      exact ⟨_, _, rfl, rfl, rfl, hK, hS, hT, hP, hL, hI⟩
  · simp only [if_neg h1]
    exact ⟨_, _, rfl, rfl, rfl, hK, hS, hT, hP, hL, hI⟩
theorem lp_ct2 {ye : Int32} {wSh : Nat → Int64} {ytr yln v1 : Int32} {aSz bSi : Nat → Int32} (hz : ∀ t, t < 3 → aSz t = bSi t ∧ (aSz t = -1 ∨ ∃ n, n ≤ 15 ∧ aSz t = nI n)) : ∀ (fu k : Nat) (c : Int32), k ≤ 3 → 3 - k < fu →
    ∃ r, f_X4_listsThere_L4 aSz fu c (nI k) = some r ∧ f_X5_count_L46 ye wSh ytr yln bSi v1 fu c (nI k) = some r := by
  intro fu
  induction fu with
  | zero => intro k c h1 h2; exact absurd h2 (Nat.not_lt_zero _)
  | succ fu ih =>
    intro k c h1 h2
    rw [f_X4_listsThere_L4, f_X5_count_L46]
    rcases Nat.lt_or_ge k 3 with q | q
    · have n1 : ¬ (3 : Int32) ≤ nI k := q_nle (a := 3) (by omega) (by omega) q
      have a1 : inb (nI k) 3 = true := inb_t q (by omega)
      obtain ⟨e1, h3⟩ := hz k q
      simp only [if_neg n1, if_pos a1, nI_clamp (show k < 2 ^ 31 by omega), ← e1, q_s]
      rcases h3 with h3 | ⟨n, hn, h4⟩
      · rw [h3, if_pos (by decide), if_pos rfl]
        show ∃ r, _ = some r ∧ f_X5_count_L46 _ _ _ _ _ _ _ (c + 0) _ = some r
        rw [Int32.add_zero]
        exact ih (k + 1) c (by omega) (by omega)
      · rw [h4, if_neg (nI_pos (by omega)), if_neg (m1_nI (by omega))]
        exact ih (k + 1) (c + 1) (by omega) (by omega)
    · rw [if_pos (show (3 : Int32) ≤ nI k from q_le (a := 3) (by omega) (by omega) q), if_pos (show (3 : Int32) ≤ nI k from q_le (a := 3) (by omega) (by omega) q)]
      exact ⟨c, rfl, rfl⟩
theorem lp_ct95a {E : Nat} (hE : E ≤ 12) {wSh : Nat → Int64} {ytr yln v1 : Int32} {bSi : Nat → Int32} {KK : Int32 → Int32 → Option Int32} (c s : Int32) : ∀ (fu k : Nat), k ≤ E → E - k < fu → f_X5_count_L95 (nI E) wSh ytr yln bSi v1 KK fu c s 1 (nI k) = KK (c + 1) (s + 1) := by
  intro fu
  induction fu with
  | zero => intro k h1 h2; exact absurd h2 (Nat.not_lt_zero _)
  | succ fu ih =>
    intro k h1 h2
    rw [f_X5_count_L95]
    rcases Nat.lt_or_ge k E with q | q
    · rw [if_neg (q_nle (by omega) (by omega) q), if_neg (by decide), q_s]
      exact ih (k + 1) (by omega) (by omega)
    · rw [if_pos (q_le (by omega) (by omega) q)]
      rfl
theorem lp_ct95 {E s : Nat} (hE : E ≤ 12) (hs : s < 4) {M : Nat → Nat → Int64} {wSh : Nat → Int64} (hM : ∀ i, i < E → M s i = wSh (12 * s + i)) {ytr yln v1 : Int32} {bSi : Nat → Int32} {KK : Int32 → Int32 → Option Int32} (c : Int32) : ∀ (fu k : Nat), k ≤ E → E - k < fu →
    (f_X4_isZero_L2 (nI E) M s fu (nI k) = some 0 ∧ f_X5_count_L95 (nI E) wSh ytr yln bSi v1 KK fu c (nI s) 0 (nI k) = KK (c + 1) (nI s + 1)) ∨ (f_X4_isZero_L2 (nI E) M s fu (nI k) = some 1 ∧ f_X5_count_L95 (nI E) wSh ytr yln bSi v1 KK fu c (nI s) 0 (nI k) = KK (c + 0) (nI s + 1)) := by
  intro fu
  induction fu with
  | zero => intro k h1 h2; exact absurd h2 (Nat.not_lt_zero _)
  | succ fu ih =>
    intro k h1 h2
    rw [f_X4_isZero_L2, f_X5_count_L95]
    rcases Nat.lt_or_ge k E with q | q
    · have n1 : ¬ nI E ≤ nI k := q_nle (by omega) (by omega) q
      have a1 : inb (nI k) (rl s) = true := inb_t (rl_lt (by omega)) (by omega)
      have a2 : inb (nI (12 * s + k)) 48 = true := inb_t (by omega) (by omega)
      simp only [if_neg n1, if_pos a1, pu_i12, if_pos a2, nI_clamp (show k < 2 ^ 31 by omega), nI_clamp (show 12 * s + k < 2 ^ 31 by omega), hM k q, ↓reduceIte, q_s k]
      by_cases e : lg_cmp (wSh (12 * s + k)) 0 = 0
      · rw [if_pos e, if_pos e]
        exact ih (k + 1) (by omega) (by omega)
      · rw [if_neg e, if_neg e]
        exact Or.inl ⟨rfl, lp_ct95a hE c (nI s) fu (k + 1) (by omega) (by omega)⟩
    · rw [if_pos (q_le (by omega) (by omega) q), if_pos (q_le (by omega) (by omega) q)]
      exact Or.inr ⟨rfl, rfl⟩
theorem lp_ct84 {E : Nat} (hE : E ≤ 12) {M : Nat → Nat → Int64} {wSh : Nat → Int64} (hM : ∀ s i, s < 4 → i < E → M s i = wSh (12 * s + i)) {ytr yln v1 : Int32} {bSi : Nat → Int32} : ∀ (fu s : Nat) (c : Int32), s ≤ 4 → 4 - s < fu →
    ∃ r, f_X4_shelvesInUse_L4 (nI E) M fu c (nI s) = some r ∧ f_X5_count_L84 (nI E) wSh ytr yln bSi v1 fu c (nI s) = some r := by
  intro fu
  induction fu with
  | zero => intro k c h1 h2; exact absurd h2 (Nat.not_lt_zero _)
  | succ fu ih =>
    intro s c h1 h2
    rw [f_X4_shelvesInUse_L4, f_X5_count_L84]
    rcases Nat.lt_or_ge s 4 with q | q
    · have n1 : ¬ (4 : Int32) ≤ nI s := q_nle (a := 4) (by omega) (by omega) q
      have a1 : inb (nI s) 4 = true := inb_t q (by omega)
      simp only [if_neg n1, if_pos a1, nI_clamp (show s < 2 ^ 31 by omega), Nat.zero_add]
      unfold f_X4_isZero
      rcases lp_ct95 (s := s) (M := M) (wSh := wSh) (ytr := ytr) (yln := yln) (v1 := v1) (bSi := bSi) (KK := fun w0 w1 => f_X5_count_L84 (nI E) wSh ytr yln bSi v1 fu w0 w1) hE q (fun i hi => hM s i q hi) c FU 0 (Nat.zero_le _) (by show _ < 2000; omega) with ⟨e1, e2⟩ | ⟨e1, e2⟩
      · have e1 : f_X4_isZero_L2 (nI E) M s FU 0 = some 0 := e1
        have e2 : f_X5_count_L95 (nI E) wSh ytr yln bSi v1 (fun w0 w1 => f_X5_count_L84 (nI E) wSh ytr yln bSi v1 fu w0 w1) FU c (nI s) 0 0 = f_X5_count_L84 (nI E) wSh ytr yln bSi v1 fu (c + 1) (nI s + 1) := e2
        rw [e1, e2, Option.bind_some, if_pos rfl, q_s]
        exact ih (s + 1) (c + 1) (by omega) (by omega)
      · have e1 : f_X4_isZero_L2 (nI E) M s FU 0 = some 1 := e1
        have e2 : f_X5_count_L95 (nI E) wSh ytr yln bSi v1 (fun w0 w1 => f_X5_count_L84 (nI E) wSh ytr yln bSi v1 fu w0 w1) FU c (nI s) 0 0 = f_X5_count_L84 (nI E) wSh ytr yln bSi v1 fu (c + 0) (nI s + 1) := e2
        rw [e1, e2, Option.bind_some, if_neg (by decide), q_s, Int32.add_zero]
        exact ih (s + 1) c (by omega) (by omega)
    · rw [if_pos (show (4 : Int32) ≤ nI s from q_le (a := 4) (by omega) (by omega) q), if_pos (show (4 : Int32) ≤ nI s from q_le (a := 4) (by omega) (by omega) q)]
      exact ⟨c, rfl, rfl⟩
set_option maxRecDepth 4000 in
theorem op_count {zp : Int32} {ze : Int32} {zf : Int32} {zg : Int32} {zn : Int32} {aG : Nat → Int32} {aW : Nat → Int32} {aR : Nat → Int32} {aN : Nat → Int32} {aF : Nat → Int32} {lC : Nat → Int64} {lS : Nat → Int64} {lP : Nat → Int64} {lX : Nat → Int64} {ztc : Int32} {aTs : Nat → Int32} {aTn : Nat → Int32} {zoc : Int32} {aOs : Nat → Int32} {aOn : Nat → Int32} {aTp : Nat → Int32} {zln : Int32} {zpl : Int32} {zfa : Int32} {aSz : Nat → Int32} {zit : Int32} {zip : Int32} {zic : Int32} {zig : Int32} {M : Nat → Nat → Int64} {yp : Int32} {ye : Int32} {yg : Int32} {bPo : Nat → Int32} {bTb : Nat → Int32} {wSh : Nat → Int64} {wTe : Nat → Int64} {wNx : Nat → Int64} {bOs : Nat → Int32} {bOn : Nat → Int32} {yop : Int32} {bSo : Nat → Int32} {bNu : Nat → Int32} {ytr : Int32} {yiw : Int32} {wMa : Nat → Int64} {wPr : Nat → Int64} {bTp : Nat → Int32} {yln : Int32} {ypl : Int32} {yfa : Int32} {wLi : Nat → Int64} {bSi : Nat → Int32} {yhp : Int32} {yhe : Int32} {yhg : Int32} {wHs : Nat → Int64} {yhi : Int32} (h : Rel zp ze zf zg zn aG aW aR aN aF lC lS lP lX ztc aTs aTn zoc aOs aOn aTp zln zpl zfa aSz zit zip zic zig M yp ye yg bPo bTb wSh wTe wNx bOs bOn yop bSo bNu ytr yiw wMa wPr bTp yln ypl yfa wLi bSi yhp yhe yhg wHs yhi) (v1 : Int32) : ∃ z1 z2, f_X4_count ze ztc zln aSz M v1 = some z1 ∧ f_X5_count ye wSh ytr yln bSi v1 = some z2 ∧ z1 = z2 ∧ Rel zp ze zf zg zn aG aW aR aN aF lC lS lP lX ztc aTs aTn zoc aOs aOn aTp zln zpl zfa aSz zit zip zic zig M yp ye yg bPo bTb wSh wTe wNx bOs bOn yop bSo bNu ytr yiw wMa wPr bTp yln ypl yfa wLi bSi yhp yhe yhg wHs yhi := by
  obtain ⟨hK, hS, hT, hP, hL, hI⟩ := h
  obtain ⟨P, E, g, hV, ⟨rfl, rfl, rfl, rfl, rfl⟩, hG, hW, hRa, hN, hF, hC, ⟨rfl, rfl, rfl⟩, hPo, hTb⟩ := hK
  have hK : RelK (nI P) (nI E) (nI ((P - 1) / E)) (nI g) (nI (gens P).length) aG aW aR aN aF lC (nI P) (nI E) (nI g) bPo bTb := ⟨P, E, g, hV, ⟨rfl, rfl, rfl, rfl, rfl⟩, hG, hW, hRa, hN, hF, hC, ⟨rfl, rfl, rfl⟩, hPo, hTb⟩
  have hb := hV.bd
  unfold f_X4_count f_X5_count
  by_cases h0 : v1 = 0
  · obtain ⟨n, hn, rfl, rfl, hc⟩ := id hP
    rw [if_pos h0, if_pos h0]
    exact ⟨_, _, rfl, rfl, rfl, hK, hS, hT, hP, hL, hI⟩
  rw [if_neg h0, if_neg h0]
  by_cases h1 : v1 = 1
  · obtain ⟨t0, t, ht, rfl, rfl, htt⟩ := id hT
    rw [if_pos h1, if_pos h1]
    exact ⟨_, _, rfl, rfl, rfl, hK, hS, hT, hP, hL, hI⟩
  rw [if_neg h1, if_neg h1]
  by_cases h2 : v1 = 2
  · rw [if_pos h2, if_pos h2]
    unfold f_X4_listsThere
    obtain ⟨r, e1, e2⟩ := lp_ct2 (ye := nI E) (wSh := wSh) (ytr := ytr) (yln := yln) (v1 := v1) (aSz := aSz) (bSi := bSi) (fun t ht => ⟨(hL t ht).1, (hL t ht).2.imp id (fun ⟨n, a, b, _⟩ => ⟨n, a, b⟩)⟩) FU 0 0 (Nat.zero_le _) (by show _ < 2000; omega)
    have e1 : f_X4_listsThere_L4 aSz FU 0 0 = some r := e1
    rw [e1, Option.bind_some]
    exact ⟨r, r, rfl, e2, rfl, hK, hS, hT, hP, hL, hI⟩
  rw [if_neg h2, if_neg h2]
  by_cases h3 : v1 = 3
  · rw [if_pos h3, if_pos h3]
    unfold f_X4_shelvesInUse
    obtain ⟨r, e1, e2⟩ := lp_ct84 (ytr := ytr) (yln := yln) (v1 := v1) (bSi := bSi) hb.2.2.2.1 ((relS_iff (by omega) M wSh).mp hS) FU 0 0 (Nat.zero_le _) (by show _ < 2000; omega)
    have e1 : f_X4_shelvesInUse_L4 (nI E) M FU 0 0 = some r := e1
    rw [e1, Option.bind_some]
    exact ⟨r, r, rfl, e2, rfl, hK, hS, hT, hP, hL, hI⟩
  rw [if_neg h3, if_neg h3]
  exact ⟨_, _, rfl, rfl, rfl, hK, hS, hT, hP, hL, hI⟩

