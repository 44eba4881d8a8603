/-! ROWS: shelves, and the rows that both reckon with -/
/-- row r of a flat array holds v, as far as E goes -/
def FR (E r : Nat) (W v : Nat → Int64) : Prop := ∀ h, h < E → W (12 * r + h) = v h
/-- all but row r stays -/
def FO (E r : Nat) (W W' : Nat → Int64) : Prop := ∀ k, (∀ h, h < E → k ≠ 12 * r + h) → W' k = W k
/-- row r of M holds v, as far as E goes -/
def MR (E r : Nat) (M : Nat → Nat → Int64) (v : Nat → Int64) : Prop := ∀ h, h < E → M r h = v h
theorem FO.row {E r r2 : Nat} (hE : E ≤ 12) {W W' : Nat → Int64} (h : FO E r W W') (hr : r2 ≠ r) {h2 : Nat} (hh : h2 < E) : W' (12 * r2 + h2) = W (12 * r2 + h2) := h _ (fun h3 hh3 => by omega)
theorem FR.keep {E r r2 : Nat} {W W' v : Nat → Int64} (hf : FR E r2 W v) (hE : E ≤ 12) (h : FO E r W W') (hr : r2 ≠ r) : FR E r2 W' v := fun i hi => by rw [h.row hE hr hi]; exact hf i hi
theorem FO.trans {E r : Nat} {W W' W'' : Nat → Int64} (h1 : FO E r W W') (h2 : FO E r W' W'') : FO E r W W'' := fun k hk => (h2 k hk).trans (h1 k hk)
theorem FO.refl (E r : Nat) (W : Nat → Int64) : FO E r W W := fun _ _ => rfl
theorem FO.put {E r : Nat} {W0 W : Nat → Int64} (h : FO E r W0 W) {k : Nat} (hk : k < E) (x : Int64) : FO E r W0 (vp_updL W (12 * r + k) x) := fun j hj => by rw [vL_n (hj k hk)]; exact h j hj
theorem cpk_ok {a b n n0 n1 : Nat} (h1 : a + n ≤ n0) (h2 : b + n ≤ n1) (h0 : n0 < 2 ^ 31) (h3 : n1 < 2 ^ 31) : cpk (nI a) (nI b) (nI n) n0 n1 = true := by
  have ha : a < 2 ^ 31 := by omega
  have hb : b < 2 ^ 31 := by omega
  have hn : n < 2 ^ 31 := by omega
  unfold cpk
  rw [nI_clamp ha, nI_clamp hb, nI_clamp hn, decide_eq_false (nI_pos ha), decide_eq_false (nI_pos hb), decide_eq_false (nI_pos hn), decide_eq_true h1, decide_eq_true h2]
  rfl
theorem cpy_row {E r s : Nat} {f g v : Nat → Int64} (h : FR E s f v) : FR E r (va_cpy f g (12 * s) (12 * r) E) v ∧ FO E r g (va_cpy f g (12 * s) (12 * r) E) := by
  refine ⟨fun i hi => ?_, fun k hk => ?_⟩
  · rw [pk_cpy_in (by omega) (by omega), show 12 * s + (12 * r + i - 12 * r) = 12 * s + i by omega]
    exact h i hi
  · refine pk_cpy_out ?_
    by_cases a : k < 12 * r
    · exact Or.inl a
    · exact Or.inr (Nat.not_lt.mp fun q => hk (k - 12 * r) (by omega) (by omega))
theorem q_12 (r : Nat) : 12 * nI r = nI (12 * r) := pk_mul 12 r
theorem takes_ok {E r s : Nat} (hE : E ≤ 12) (hr : r < 40) (hs : s < 4) {wSh wMa v : Nat → Int64} (h : FR E s wSh v) : ∃ wMa', f_X5_takes (nI E) wSh wMa (nI r) (nI s) = some wMa' ∧ FR E r wMa' v ∧ FO E r wMa wMa' := by
  refine ⟨va_cpy wSh wMa (12 * s) (12 * r) E, ?_, cpy_row h⟩
  unfold f_X5_takes
  rw [q_12, q_12, if_pos (cpk_ok (by omega) (by omega) (by decide) (by decide)), nI_clamp (by omega), nI_clamp (by omega), nI_clamp (by omega)]
theorem lays_ok {E s : Nat} (hE : E ≤ 12) (hs : s < 4) (wSh : Nat → Int64) {wMa v : Nat → Int64} (h : FR E 0 wMa v) : ∃ wSh', f_X5_lays (nI E) wSh 0 wMa (nI s) = some (1, wSh') ∧ FR E s wSh' v ∧ FO E s wSh wSh' := by
  refine ⟨va_cpy wMa wSh (12 * 0) (12 * s) E, ?_, cpy_row h⟩
  unfold f_X5_lays
  rw [if_pos rfl, q_12, if_pos (show cpk 0 (nI (12 * s)) (nI E) 480 48 = true from cpk_ok (a := 0) (by omega) (by omega) (by decide) (by decide)), nI_clamp (by omega), nI_clamp (by omega)]
  rfl
theorem lays_no (ye : Int32) (wSh wMa : Nat → Int64) (v : Int32) : f_X5_lays ye wSh 1 wMa v = some (-9, wSh) := rfl
theorem lp_bw {E r : Nat} (hE : E ≤ 12) (hr : r < 40) (v : Int64) (wMa0 : Nat → Int64) : ∀ (fu k : Nat) (wMa : Nat → Int64), k ≤ E → E - k < fu → (∀ h, h < k → wMa (12 * r + h) = -v) → FO E r wMa0 wMa →
    ∃ wMa', f_X5_becomesWhole_L3 (nI E) (nI r) v fu wMa (nI k) = some wMa' ∧ FR E r wMa' (fun _ => -v) ∧ FO E r wMa0 wMa' := by
  intro fu
  induction fu with
  | zero => intro k wMa h1 h2; exact absurd h2 (Nat.not_lt_zero _)
  | succ fu ih =>
    intro k wMa h1 h2 hA hB
    rw [f_X5_becomesWhole_L3]
    rcases Nat.lt_or_ge k E with q | q
    · rw [if_neg (q_nle (by omega) (by omega) q), pu_i12, if_pos (inb_t (by omega) (by omega)), nI_clamp (by omega), q_s]
      refine ih (k + 1) _ (by omega) (by omega) (fun h hh => ?_) (hB.put q _)
      by_cases e : h = k
      · rw [e, vL_s]
      · rw [vL_n (by omega)]
        exact hA h (by omega)
    · rw [if_pos (q_le (by omega) (by omega) q)]
      exact ⟨wMa, rfl, fun h hh => hA h (by omega), hB⟩
theorem becomesWhole_ok {E r : Nat} (hE : E ≤ 12) (hr : r < 40) (v : Int64) (wMa : Nat → Int64) : ∃ wMa', f_X5_becomesWhole (nI E) wMa (nI r) v = some wMa' ∧ FR E r wMa' (fun _ => -v) ∧ FO E r wMa wMa' :=
  lp_bw hE hr v wMa FU 0 wMa (Nat.zero_le _) (by show _ < 2000; omega) (fun h hh => absurd hh (Nat.not_lt_zero _)) (FO.refl _ _ _)
theorem relS_put {E s : Nat} {M M' : Nat → Nat → Int64} {wSh wSh' v : Nat → Int64} (hE : E ≤ 12) (h : RelS (nI E) M wSh) (hM : MR E s M' v) (hO : ∀ r, r < 4 → r ≠ s → M' r = M r) (hW : FR E s wSh' v) (hF : FO E s wSh wSh') : RelS (nI E) M' wSh' := by
  rw [relS_iff (by omega)] at h ⊢
  intro s2 i2 hs hi
  by_cases e : s2 = s
  · rw [e, hM i2 hi, hW i2 hi]
  · rw [hO s2 hs e, hF.row hE e hi]
    exact h s2 i2 hs hi
theorem swr_in {v : Int64} {g : Nat → Int64} {i : Nat} (h : i < 12) : swr v 12 g i = v := if_pos h
theorem cpr_in {f g : Nat → Int64} {i : Nat} (h : i < 12) : cpr f 12 g i = f i := if_pos h
theorem copyRow_ok {r0 r1 : Nat} (h : r1 ≠ r0) (M : Nat → Nat → Int64) : f_X4_copyRow M r0 r1 = some (va_up M r1 (cpr (M r0) 12 (M r1))) := if_neg h
set_option maxRecDepth 4000 in
theorem op_whole {zp : Int32} {ze : Int32} {zf : Int32} {zg : Int32} {zn : Int32} {aG : Nat → Int32} {aW : Nat → Int32} {aR : Nat → Int32} {aN : Nat → Int32} {aF : Nat → Int32} {lC : Nat → Int64} {lS : Nat → Int64} {lP : Nat → Int64} {lX : Nat → Int64} {ztc : Int32} {aTs : Nat → Int32} {aTn : Nat → Int32} {zoc : Int32} {aOs : Nat → Int32} {aOn : Nat → Int32} {aTp : Nat → Int32} {zln : Int32} {zpl : Int32} {zfa : Int32} {aSz : Nat → Int32} {zit : Int32} {zip : Int32} {zic : Int32} {zig : Int32} {M : Nat → Nat → Int64} {yp : Int32} {ye : Int32} {yg : Int32} {bPo : Nat → Int32} {bTb : Nat → Int32} {wSh : Nat → Int64} {wTe : Nat → Int64} {wNx : Nat → Int64} {bOs : Nat → Int32} {bOn : Nat → Int32} {yop : Int32} {bSo : Nat → Int32} {bNu : Nat → Int32} {ytr : Int32} {yiw : Int32} {wMa : Nat → Int64} {wPr : Nat → Int64} {bTp : Nat → Int32} {yln : Int32} {ypl : Int32} {yfa : Int32} {wLi : Nat → Int64} {bSi : Nat → Int32} {yhp : Int32} {yhe : Int32} {yhg : Int32} {wHs : Nat → Int64} {yhi : Int32} (h : Rel zp ze zf zg zn aG aW aR aN aF lC lS lP lX ztc aTs aTn zoc aOs aOn aTp zln zpl zfa aSz zit zip zic zig M yp ye yg bPo bTb wSh wTe wNx bOs bOn yop bSo bNu ytr yiw wMa wPr bTp yln ypl yfa wLi bSi yhp yhe yhg wHs yhi) (v1 : Int32) (v2 : Int32) : ∃ z1 z2, f_X4_whole M v1 v2 = some z1 ∧ f_X5_whole ye wSh yop yiw wMa v1 v2 = some z2 ∧ z1.1 = z2.1 ∧ Rel zp ze zf zg zn aG aW aR aN aF lC lS lP lX ztc aTs aTn zoc aOs aOn aTp zln zpl zfa aSz zit zip zic zig z1.2 yp ye yg bPo bTb z2.2.1 wTe wNx bOs bOn z2.2.2.1 bSo bNu ytr z2.2.2.2.1 z2.2.2.2.2 wPr bTp yln ypl yfa wLi bSi yhp yhe yhg wHs yhi := by
  obtain ⟨hK, hS, hT, hP, hL, hI⟩ := h
  obtain ⟨P, E, g, hV, ⟨rfl, rfl, rfl, rfl, rfl⟩, hG, hW, hRa, hN, hF, hC, ⟨rfl, rfl, rfl⟩, hPo, hTb⟩ := hK
  have hK : RelK (nI P) (nI E) (nI ((P - 1) / E)) (nI g) (nI (gens P).length) aG aW aR aN aF lC (nI P) (nI E) (nI g) bPo bTb := ⟨P, E, g, hV, ⟨rfl, rfl, rfl, rfl, rfl⟩, hG, hW, hRa, hN, hF, hC, ⟨rfl, rfl, rfl⟩, hPo, hTb⟩
  have hb := hV.bd
  unfold f_X4_whole f_X5_whole
  rw [pu_shelf4, pu_shelf5]
  simp only [Option.bind_some, pu_if]
  by_cases h1 : inb v1 4 = true
  · obtain ⟨s, hs, rfl⟩ := inb_ex h1 (by omega)
    simp only [if_pos h1]
    rw [nI_clamp (by omega), Nat.zero_add]
    obtain ⟨wMa', e1, h2, -⟩ := becomesWhole_ok (E := E) (r := 0) (by omega) (by omega) v2.toInt64 wMa
    obtain ⟨wSh', e2, h3, h4⟩ := lays_ok (by omega) hs wSh h2
    have e1 : f_X5_becomesWhole (nI E) wMa 0 v2.toInt64 = some wMa' := e1
    simp only [f_X4_setWhole, f_X5_begins_, Option.bind_some, e1, e2]
    exact ⟨_, _, rfl, rfl, rfl, hK, relS_put (by omega) hS (fun h hh => by show va_up M s _ s h = _; rw [up_s, swr_in (by omega)]) (fun r hr1 hr2 => up_n _ _ hr2) h3 h4, hT, hP, relL_M (MS_low hs) hL, relI_M (MS_low hs) hI⟩
  · simp only [if_neg h1]
    exact ⟨_, _, rfl, rfl, rfl, hK, hS, hT, hP, hL, hI⟩
theorem lp_pd {E s i : Nat} (hE : E ≤ 12) (hs : s < 4) (hi : i < 12) (wSh0 : Nat → Int64) : ∀ (fu k : Nat) (wSh : Nat → Int64), k ≤ E → E - k < fu → (∀ h, h < k → wSh (12 * s + h) = if h = i then 1 else 0) → FO E s wSh0 wSh →
    ∃ wSh', f_X5_period_L19 (nI E) (nI s) (nI i) fu wSh (nI k) = some (1, wSh') ∧ FR E s wSh' (fun h => if h = i then 1 else 0) ∧ FO E s wSh0 wSh' := by
  intro fu
  induction fu with
  | zero => intro k wMa h1 h2; exact absurd h2 (Nat.not_lt_zero _)
  | succ fu ih =>
    intro k wSh h1 h2 hA hB
    rw [f_X5_period_L19]
    rcases Nat.lt_or_ge k E with q | q
    · have n1 : ¬ nI E ≤ nI k := q_nle (by omega) (by omega) q
      have a1 : inb (nI (12 * s + k)) 48 = true := inb_t (by omega) (by omega)
      simp only [if_neg n1, pu_i12, if_pos a1, nI_clamp (show 12 * s + k < 2 ^ 31 by omega), q_s]
      have step : ∀ x : Int64, x = (if k = i then 1 else 0) → ∃ wSh', f_X5_period_L19 (nI E) (nI s) (nI i) fu (vp_updL wSh (12 * s + k) x) (nI (k + 1)) = some (1, wSh') ∧ FR E s wSh' (fun h => if h = i then 1 else 0) ∧ FO E s wSh0 wSh' := by
        intro x hx
        refine ih (k + 1) _ (by omega) (by omega) (fun h hh => ?_) (hB.put q _)
        by_cases e : h = k
        · rw [e, vL_s, hx]
        · rw [vL_n (by omega)]
          exact hA h (by omega)
      by_cases e : k = i
      · rw [if_pos (by rw [e])]
        exact step _ (by rw [if_pos e]; rfl)
      · rw [if_neg (fun w => e ((q_eq (by omega) (by omega)).mp w))]
        exact step _ (by rw [if_neg e]; rfl)
    · rw [if_pos (q_le (by omega) (by omega) q)]
      exact ⟨wSh, rfl, fun h hh => hA h (by omega), hB⟩
set_option maxRecDepth 4000 in
theorem op_period {zp : Int32} {ze : Int32} {zf : Int32} {zg : Int32} {zn : Int32} {aG : Nat → Int32} {aW : Nat → Int32} {aR : Nat → Int32} {aN : Nat → Int32} {aF : Nat → Int32} {lC : Nat → Int64} {lS : Nat → Int64} {lP : Nat → Int64} {lX : Nat → Int64} {ztc : Int32} {aTs : Nat → Int32} {aTn : Nat → Int32} {zoc : Int32} {aOs : Nat → Int32} {aOn : Nat → Int32} {aTp : Nat → Int32} {zln : Int32} {zpl : Int32} {zfa : Int32} {aSz : Nat → Int32} {zit : Int32} {zip : Int32} {zic : Int32} {zig : Int32} {M : Nat → Nat → Int64} {yp : Int32} {ye : Int32} {yg : Int32} {bPo : Nat → Int32} {bTb : Nat → Int32} {wSh : Nat → Int64} {wTe : Nat → Int64} {wNx : Nat → Int64} {bOs : Nat → Int32} {bOn : Nat → Int32} {yop : Int32} {bSo : Nat → Int32} {bNu : Nat → Int32} {ytr : Int32} {yiw : Int32} {wMa : Nat → Int64} {wPr : Nat → Int64} {bTp : Nat → Int32} {yln : Int32} {ypl : Int32} {yfa : Int32} {wLi : Nat → Int64} {bSi : Nat → Int32} {yhp : Int32} {yhe : Int32} {yhg : Int32} {wHs : Nat → Int64} {yhi : Int32} (h : Rel zp ze zf zg zn aG aW aR aN aF lC lS lP lX ztc aTs aTn zoc aOs aOn aTp zln zpl zfa aSz zit zip zic zig M yp ye yg bPo bTb wSh wTe wNx bOs bOn yop bSo bNu ytr yiw wMa wPr bTp yln ypl yfa wLi bSi yhp yhe yhg wHs yhi) (v1 : Int32) (v2 : Int32) : ∃ z1 z2, f_X4_period ze M v1 v2 = some z1 ∧ f_X5_period ye wSh v1 v2 = some z2 ∧ z1.1 = z2.1 ∧ Rel zp ze zf zg zn aG aW aR aN aF lC lS lP lX ztc aTs aTn zoc aOs aOn aTp zln zpl zfa aSz zit zip zic zig z1.2 yp ye yg bPo bTb z2.2 wTe wNx bOs bOn yop bSo bNu ytr yiw wMa wPr bTp yln ypl yfa wLi bSi yhp yhe yhg wHs yhi := by
  obtain ⟨hK, hS, hT, hP, hL, hI⟩ := h
  obtain ⟨P, E, g, hV, ⟨rfl, rfl, rfl, rfl, rfl⟩, hG, hW, hRa, hN, hF, hC, ⟨rfl, rfl, rfl⟩, hPo, hTb⟩ := hK
  have hK : RelK (nI P) (nI E) (nI ((P - 1) / E)) (nI g) (nI (gens P).length) aG aW aR aN aF lC (nI P) (nI E) (nI g) bPo bTb := ⟨P, E, g, hV, ⟨rfl, rfl, rfl, rfl, rfl⟩, hG, hW, hRa, hN, hF, hC, ⟨rfl, rfl, rfl⟩, hPo, hTb⟩
  have hb := hV.bd
  unfold f_X4_period f_X5_period
  rw [pu_shelf4, pu_shelf5, pu_cls4 (by omega), pu_cls5 (by omega) (by omega)]
  simp only [Option.bind_some, pu_if]
  by_cases h1 : inb v1 4 = true
  · by_cases h2 : inb v2 E = true
    · obtain ⟨s, hs, rfl⟩ := inb_ex h1 (by omega)
      obtain ⟨i, hi, rfl⟩ := inb_ex h2 (by omega)
      simp only [if_pos h1, if_pos h2]
      rw [nI_clamp (by omega), Nat.zero_add]
      obtain ⟨wSh', e2, h3, h4⟩ := lp_pd (E := E) (s := s) (i := i) (by omega) hs (by omega) wSh FU 0 wSh (Nat.zero_le _) (by show _ < 2000; omega) (fun h hh => absurd hh (Nat.not_lt_zero _)) (FO.refl _ _ _)
      have e2 : f_X5_period_L19 (nI E) (nI s) (nI i) FU wSh 0 = some (1, wSh') := e2
      simp only [f_X4_setPeriod, if_pos (inb_t (rl_lt (show i < 12 by omega)) (show i < 2 ^ 31 by omega)), Option.bind_some, e2]
      refine ⟨_, _, rfl, rfl, rfl, hK, relS_put (by omega) hS (fun h hh => ?_) (fun r hr1 hr2 => up_n _ _ hr2) h3 h4, hT, hP, relL_M (MS_low hs) hL, relI_M (MS_low hs) hI⟩
      show va_up M s _ s h = if h = i then 1 else 0
      rw [up_s, nI_clamp (by omega)]
      by_cases e : h = i
      · rw [e, vL_s, if_pos rfl]
      · rw [vL_n e, swr_in (by omega), if_neg e]
        rfl
    · simp only [if_pos h1, if_neg h2]
      exact ⟨_, _, rfl, rfl, rfl, hK, hS, hT, hP, hL, hI⟩
  · simp only [if_neg h1]
    exact ⟨_, _, rfl, rfl, rfl, hK, hS, hT, hP, hL, hI⟩
theorem lp_iw0 {E : Nat} (hE : E ≤ 12) (wSh : Nat → Int64) (v1 : Int32) : ∀ (fu k : Nat), k ≤ E → E - k < fu → f_X5_isWhole_L13 (nI E) wSh v1 fu 0 (nI k) = some 0 := by
  intro fu
  induction fu with
  | zero => intro k h1 h2; exact absurd h2 (Nat.not_lt_zero _)
  | succ fu ih =>
    intro k h1 h2
    rw [f_X5_isWhole_L13]
    rcases Nat.lt_or_ge k E with q | q
    · rw [if_neg (q_nle (by omega) (by omega) q), if_pos rfl, q_s]
      exact ih (k + 1) (by omega) (by omega)
    · rw [if_pos (q_le (by omega) (by omega) q)]
      rfl
theorem lp_iw {E s : Nat} (hE1 : 1 ≤ E) (hE : E ≤ 12) (hs : s < 4) {M : Nat → Nat → Int64} {wSh : Nat → Int64} (hS : ∀ i, i < E → M s i = wSh (12 * s + i)) : ∀ (fu k : Nat), k ≤ E → E - k < fu → ∃ r, f_X4_isWhole_L11 (nI E) M (nI s) fu (nI k) = some r ∧ f_X5_isWhole_L13 (nI E) wSh (nI s) fu 1 (nI k) = some r := by
  intro fu
  induction fu with
  | zero => intro k h1 h2; exact absurd h2 (Nat.not_lt_zero _)
  | succ fu ih =>
    intro k h1 h2
    rw [f_X4_isWhole_L11, f_X5_isWhole_L13]
    rcases Nat.lt_or_ge k E with q | q
    · have i4 : inb (nI s) 4 = true := inb_t hs (by omega)
      have ik : inb (nI k) (rl s) = true := inb_t (rl_lt (by omega)) (by omega)
      have i0 : inb 0 (rl s) = true := inb_t (k := 0) (rl_lt (by omega)) (by omega)
      have a1 : inb (nI (12 * s + k)) 48 = true := inb_t (by omega) (by omega)
      have a2 : inb (nI (12 * s)) 48 = true := inb_t (by omega) (by omega)
      have h0 := hS 0 (by omega)
      rw [Nat.add_zero] at h0
      have n1 : ¬ nI E ≤ nI k := q_nle (by omega) (by omega) q
      simp only [if_neg n1, if_pos i4, nI_clamp (show s < 2 ^ 31 by omega), Nat.zero_add, if_pos ik, if_pos i0, if_neg (show ¬ (1 : Int32) = 0 by decide), nI_add, q_12, if_pos a1, if_pos a2, nI_clamp (show k < 2 ^ 31 by omega), nI_clamp (show 12 * s + k < 2 ^ 31 by omega), nI_clamp (show 12 * s < 2 ^ 31 by omega), hS k q, show (0 : Int32).toNatClampNeg = 0 by decide, h0, q_s]
      by_cases e : wSh (12 * s + k) = wSh (12 * s)
      · rw [if_pos ((pu_cmp_eq _ _).mpr e), if_pos ((pu_cmp_eq _ _).mpr e)]
        exact ih (k + 1) (by omega) (by omega)
      · rw [if_neg (fun w => e ((pu_cmp_eq _ _).mp w)), if_neg (fun w => e ((pu_cmp_eq _ _).mp w))]
        exact ⟨0, rfl, lp_iw0 hE wSh (nI s) fu (k + 1) (by omega) (by omega)⟩
    · rw [if_pos (q_le (by omega) (by omega) q), if_pos (q_le (by omega) (by omega) q)]
      exact ⟨1, rfl, rfl⟩
set_option maxRecDepth 4000 in
theorem op_isWhole {zp : Int32} {ze : Int32} {zf : Int32} {zg : Int32} {zn : Int32} {aG : Nat → Int32} {aW : Nat → Int32} {aR : Nat → Int32} {aN : Nat → Int32} {aF : Nat → Int32} {lC : Nat → Int64} {lS : Nat → Int64} {lP : Nat → Int64} {lX : Nat → Int64} {ztc : Int32} {aTs : Nat → Int32} {aTn : Nat → Int32} {zoc : Int32} {aOs : Nat → Int32} {aOn : Nat → Int32} {aTp : Nat → Int32} {zln : Int32} {zpl : Int32} {zfa : Int32} {aSz : Nat → Int32} {zit : Int32} {zip : Int32} {zic : Int32} {zig : Int32} {M : Nat → Nat → Int64} {yp : Int32} {ye : Int32} {yg : Int32} {bPo : Nat → Int32} {bTb : Nat → Int32} {wSh : Nat → Int64} {wTe : Nat → Int64} {wNx : Nat → Int64} {bOs : Nat → Int32} {bOn : Nat → Int32} {yop : Int32} {bSo : Nat → Int32} {bNu : Nat → Int32} {ytr : Int32} {yiw : Int32} {wMa : Nat → Int64} {wPr : Nat → Int64} {bTp : Nat → Int32} {yln : Int32} {ypl : Int32} {yfa : Int32} {wLi : Nat → Int64} {bSi : Nat → Int32} {yhp : Int32} {yhe : Int32} {yhg : Int32} {wHs : Nat → Int64} {yhi : Int32} (h : Rel zp ze zf zg zn aG aW aR aN aF lC lS lP lX ztc aTs aTn zoc aOs aOn aTp zln zpl zfa aSz zit zip zic zig M yp ye yg bPo bTb wSh wTe wNx bOs bOn yop bSo bNu ytr yiw wMa wPr bTp yln ypl yfa wLi bSi yhp yhe yhg wHs yhi) (v1 : Int32) : ∃ z1 z2, f_X4_isWhole ze M v1 = some z1 ∧ f_X5_isWhole ye wSh v1 = some z2 ∧ z1 = z2 ∧ Rel zp ze zf zg zn aG aW aR aN aF lC lS lP lX ztc aTs aTn zoc aOs aOn aTp zln zpl zfa aSz zit zip zic zig M yp ye yg bPo bTb wSh wTe wNx bOs bOn yop bSo bNu ytr yiw wMa wPr bTp yln ypl yfa wLi bSi yhp yhe yhg wHs yhi := by
  obtain ⟨hK, hS, hT, hP, hL, hI⟩ := h
  obtain ⟨P, E, g, hV, ⟨rfl, rfl, rfl, rfl, rfl⟩, hG, hW, hRa, hN, hF, hC, ⟨rfl, rfl, rfl⟩, hPo, hTb⟩ := hK
  have hK : RelK (nI P) (nI E) (nI ((P - 1) / E)) (nI g) (nI (gens P).length) aG aW aR aN aF lC (nI P) (nI E) (nI g) bPo bTb := ⟨P, E, g, hV, ⟨rfl, rfl, rfl, rfl, rfl⟩, hG, hW, hRa, hN, hF, hC, ⟨rfl, rfl, rfl⟩, hPo, hTb⟩
  have hb := hV.bd
  unfold f_X4_isWhole f_X5_isWhole
  rw [pu_shelf4, pu_shelf5]
  simp only [Option.bind_some, pu_if]
  by_cases h1 : inb v1 4 = true
  · obtain ⟨s, hs, rfl⟩ := inb_ex h1 (by omega)
    simp only [if_pos h1]
    obtain ⟨r, e1, e2⟩ := lp_iw hb.2.2.1 hb.2.2.2.1 hs (fun i hi => (relS_iff (by omega) M wSh).mp hS s i hs hi) FU 1 hb.2.2.1 (by show _ < 2000; omega)
    exact ⟨r, r, e1, e2, rfl, hK, hS, hT, hP, hL, hI⟩
  · simp only [if_neg h1]
    exact ⟨_, _, rfl, rfl, rfl, hK, hS, hT, hP, hL, hI⟩
theorem lp_al0 {E : Nat} (hE : E ≤ 12) (wSh : Nat → Int64) (v1 v2 : Int32) (KK : Int32 → Option Int32) (c : Int32) : ∀ (fu k : Nat), k ≤ E → E - k < fu → f_X5_alike_L32 (nI E) wSh v1 v2 KK fu c 0 (nI k) = KK (c + 1) := by
  intro fu
  induction fu with
  | zero => intro k h1 h2; exact absurd h2 (Nat.not_lt_zero _)
  | succ fu ih =>
    intro k h1 h2
    rw [f_X5_alike_L32]
    rcases Nat.lt_or_ge k E with q | q
    · rw [if_neg (q_nle (by omega) (by omega) q), if_pos rfl, q_s]
      exact ih (k + 1) (by omega) (by omega)
    · rw [if_pos (q_le (by omega) (by omega) q), if_pos rfl]
theorem lp_al1 {E s t c : Nat} (hE1 : 1 ≤ E) (hE : E ≤ 12) (hs : s < 4) (ht : t < 4) (hc : c < E) {M : Nat → Nat → Int64} {wSh : Nat → Int64} (hS : ∀ i, i < E → M s i = wSh (12 * s + i)) (hT : ∀ i, i < E → M t i = wSh (12 * t + i)) (KK : Int32 → Option Int32) : ∀ (fu k : Nat), k ≤ E → E - k < fu →
    (f_X4_isTurnedBy_L3 (nI E) M s (nI c) t fu (nI k) = some 0 ∧ f_X5_alike_L32 (nI E) wSh (nI s) (nI t) KK fu (nI c) 1 (nI k) = KK (nI c + 1)) ∨ (f_X4_isTurnedBy_L3 (nI E) M s (nI c) t fu (nI k) = some 1 ∧ f_X5_alike_L32 (nI E) wSh (nI s) (nI t) KK fu (nI c) 1 (nI k) = some (nI c)) := by
  intro fu
  induction fu with
  | zero => intro k h1 h2; exact absurd h2 (Nat.not_lt_zero _)
  | succ fu ih =>
    intro k h1 h2
    rw [f_X4_isTurnedBy_L3, f_X5_alike_L32]
    rcases Nat.lt_or_ge k E with q | q
    · have hm : (k + c) % E < E := Nat.mod_lt _ (by omega)
      have ik : inb (nI k) (rl s) = true := inb_t (rl_lt (by omega)) (by omega)
      have im : inb (nI ((k + c) % E)) (rl t) = true := inb_t (rl_lt (by omega)) (by omega)
      have a1 : inb (nI (12 * s + k)) 48 = true := inb_t (by omega) (by omega)
      have a2 : inb (nI (12 * t + (k + c) % E)) 48 = true := inb_t (by omega) (by omega)
      have n0 : ¬ nI E = 0 := q_ne0 (by omega) (by omega)
      have n1 : ¬ nI E ≤ nI k := q_nle (by omega) (by omega) q
      rw [nI_add, q_rem (by omega) (by omega) (by omega), pu_i12, pu_i12]
      simp only [if_neg n1, if_neg n0, if_pos ik, if_pos im, if_pos a1, if_pos a2, if_neg (show ¬ (1 : Int32) = 0 by decide)]
      rw [nI_clamp (by omega), nI_clamp (by omega), nI_clamp (by omega), nI_clamp (by omega), hS k q, hT _ hm, q_s]
      by_cases e : wSh (12 * s + k) = wSh (12 * t + (k + c) % E)
      · rw [if_pos ((pu_cmp_eq _ _).mpr e.symm), if_pos ((pu_cmp_eq _ _).mpr e)]
        exact ih (k + 1) (by omega) (by omega)
      · rw [if_neg (fun w => e ((pu_cmp_eq _ _).mp w).symm), if_neg (fun w => e ((pu_cmp_eq _ _).mp w))]
        exact Or.inl ⟨rfl, lp_al0 hE wSh (nI s) (nI t) KK (nI c) fu (k + 1) (by omega) (by omega)⟩
    · rw [if_pos (q_le (by omega) (by omega) q), if_pos (q_le (by omega) (by omega) q), if_neg (by decide)]
      exact Or.inr ⟨rfl, rfl⟩
theorem lp_al {E s t : Nat} (hE1 : 1 ≤ E) (hE : E ≤ 12) (hs : s < 4) (ht : t < 4) {M : Nat → Nat → Int64} {wSh : Nat → Int64} (hS : ∀ i, i < E → M s i = wSh (12 * s + i)) (hT : ∀ i, i < E → M t i = wSh (12 * t + i)) : ∀ (fu c : Nat), c ≤ E → E - c < fu →
    ∃ r, f_X4_alike_L18 (nI E) M (nI s) (nI t) fu (nI c) = some r ∧ f_X5_alike_L18 (nI E) wSh (nI s) (nI t) fu (nI c) = some r := by
  intro fu
  induction fu with
  | zero => intro k h1 h2; exact absurd h2 (Nat.not_lt_zero _)
  | succ fu ih =>
    intro c h1 h2
    rw [f_X4_alike_L18, f_X5_alike_L18]
    rcases Nat.lt_or_ge c E with q | q
    · rw [if_neg (q_nle (by omega) (by omega) q), if_neg (q_nle (by omega) (by omega) q), if_pos (inb_t hs (by omega)), if_pos (inb_t ht (by omega)), nI_clamp (by omega), nI_clamp (by omega), Nat.zero_add, Nat.zero_add]
      unfold f_X4_isTurnedBy
      rcases lp_al1 hE1 hE hs ht q hS hT (fun w0 => f_X5_alike_L18 (nI E) wSh (nI s) (nI t) fu w0) FU 0 (Nat.zero_le _) (by show _ < 2000; omega) with ⟨e1, e2⟩ | ⟨e1, e2⟩
      · have e1 : f_X4_isTurnedBy_L3 (nI E) M s (nI c) t FU 0 = some 0 := e1
        have e2 : f_X5_alike_L32 (nI E) wSh (nI s) (nI t) (fun w0 => f_X5_alike_L18 (nI E) wSh (nI s) (nI t) fu w0) FU (nI c) 1 0 = f_X5_alike_L18 (nI E) wSh (nI s) (nI t) fu (nI c + 1) := e2
        rw [e1, e2, Option.bind_some, if_pos rfl, q_s]
        exact ih (c + 1) (by omega) (by omega)
      · have e1 : f_X4_isTurnedBy_L3 (nI E) M s (nI c) t FU 0 = some 1 := e1
        have e2 : f_X5_alike_L32 (nI E) wSh (nI s) (nI t) (fun w0 => f_X5_alike_L18 (nI E) wSh (nI s) (nI t) fu w0) FU (nI c) 1 0 = some (nI c) := e2
        rw [e1, e2, Option.bind_some, if_neg (by decide)]
        exact ⟨_, rfl, rfl⟩
    · rw [if_pos (q_le (by omega) (by omega) q), if_pos (q_le (by omega) (by omega) q)]
      exact ⟨_, rfl, rfl⟩
set_option maxRecDepth 4000 in
theorem op_alike {zp : Int32} {ze : Int32} {zf : Int32} {zg : Int32} {zn : Int32} {aG : Nat → Int32} {aW : Nat → Int32} {aR : Nat → Int32} {aN : Nat → Int32} {aF : Nat → Int32} {lC : Nat → Int64} {lS : Nat → Int64} {lP : Nat → Int64} {lX : Nat → Int64} {ztc : Int32} {aTs : Nat → Int32} {aTn : Nat → Int32} {zoc : Int32} {aOs : Nat → Int32} {aOn : Nat → Int32} {aTp : Nat → Int32} {zln : Int32} {zpl : Int32} {zfa : Int32} {aSz : Nat → Int32} {zit : Int32} {zip : Int32} {zic : Int32} {zig : Int32} {M : Nat → Nat → Int64} {yp : Int32} {ye : Int32} {yg : Int32} {bPo : Nat → Int32} {bTb : Nat → Int32} {wSh : Nat → Int64} {wTe : Nat → Int64} {wNx : Nat → Int64} {bOs : Nat → Int32} {bOn : Nat → Int32} {yop : Int32} {bSo : Nat → Int32} {bNu : Nat → Int32} {ytr : Int32} {yiw : Int32} {wMa : Nat → Int64} {wPr : Nat → Int64} {bTp : Nat → Int32} {yln : Int32} {ypl : Int32} {yfa : Int32} {wLi : Nat → Int64} {bSi : Nat → Int32} {yhp : Int32} {yhe : Int32} {yhg : Int32} {wHs : Nat → Int64} {yhi : Int32} (h : Rel zp ze zf zg zn aG aW aR aN aF lC lS lP lX ztc aTs aTn zoc aOs aOn aTp zln zpl zfa aSz zit zip zic zig M yp ye yg bPo bTb wSh wTe wNx bOs bOn yop bSo bNu ytr yiw wMa wPr bTp yln ypl yfa wLi bSi yhp yhe yhg wHs yhi) (v1 : Int32) (v2 : Int32) : ∃ z1 z2, f_X4_alike ze M v1 v2 = some z1 ∧ f_X5_alike ye wSh v1 v2 = some z2 ∧ z1 = z2 ∧ Rel zp ze zf zg zn aG aW aR aN aF lC lS lP lX ztc aTs aTn zoc aOs aOn aTp zln zpl zfa aSz zit zip zic zig M yp ye yg bPo bTb wSh wTe wNx bOs bOn yop bSo bNu ytr yiw wMa wPr bTp yln ypl yfa wLi bSi yhp yhe yhg wHs yhi := by
  obtain ⟨hK, hS, hT, hP, hL, hI⟩ := h
  obtain ⟨P, E, g, hV, ⟨rfl, rfl, rfl, rfl, rfl⟩, hG, hW, hRa, hN, hF, hC, ⟨rfl, rfl, rfl⟩, hPo, hTb⟩ := hK
  have hK : RelK (nI P) (nI E) (nI ((P - 1) / E)) (nI g) (nI (gens P).length) aG aW aR aN aF lC (nI P) (nI E) (nI g) bPo bTb := ⟨P, E, g, hV, ⟨rfl, rfl, rfl, rfl, rfl⟩, hG, hW, hRa, hN, hF, hC, ⟨rfl, rfl, rfl⟩, hPo, hTb⟩
  have hb := hV.bd
  unfold f_X4_alike f_X5_alike
  rw [pu_shelf4, pu_shelf5]
  simp only [pu_shelf4, pu_shelf5, Option.bind_some, pu_if]
  by_cases h1 : inb v1 4 = true
  · by_cases h2 : inb v2 4 = true
    · obtain ⟨s, hs, rfl⟩ := inb_ex h1 (by omega)
      obtain ⟨t, ht, rfl⟩ := inb_ex h2 (by omega)
      simp only [if_pos h1, if_pos h2]
      obtain ⟨r, e1, e2⟩ := lp_al hb.2.2.1 hb.2.2.2.1 hs ht (fun i hi => (relS_iff (by omega) M wSh).mp hS s i hs hi) (fun i hi => (relS_iff (by omega) M wSh).mp hS t i ht hi) FU 0 (Nat.zero_le _) (by show _ < 2000; omega)
      exact ⟨r, r, e1, e2, rfl, hK, hS, hT, hP, hL, hI⟩
    · simp only [if_pos h1, if_neg h2]
      exact ⟨_, _, rfl, rfl, rfl, hK, hS, hT, hP, hL, hI⟩
  · simp only [if_neg h1]
    exact ⟨_, _, rfl, rfl, rfl, hK, hS, hT, hP, hL, hI⟩

