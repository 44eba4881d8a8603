/-! THE PRIME PART of the class, on: the polynomial; settle -/
theorem q_getD_map {α : Type} {f : Nat → α} {n i : Nat} {d : α} (h : i < n) : ((List.range n).map f).getD i d = f i := by
  rw [List.getD_eq_getElem?_getD, List.getElem?_map, List.getElem?_range h]
  rfl
theorem dotL_cong {f g : Nat → Int64} : ∀ {n : Nat}, (∀ i, i < n → f i = g i) → dotL f n = dotL g n
  | 0, _ => rfl
  | n + 1, h => by
    show dotL f n + f n = dotL g n + g n
    rw [dotL_cong (fun i hi => h i (Nat.lt_succ_of_lt hi)), h n (Nat.lt_succ_self n)]
theorem vL_s {f : Nat → Int64} {k : Nat} {x : Int64} : vp_updL f k x k = x := pk_uLs
theorem vL_n {f : Nat → Int64} {k j : Nat} {x : Int64} (h : j ≠ k) : vp_updL f k x j = f j := pk_uLn h
theorem lp_m15 {E h : Nat} {aF : Nat → Int32} {lP : Nat → Int64} {KK : (Nat → Int64) → (Nat → Int64) → Int32 → Option ((Nat → Int64) × (Nat → Int64))} (hE : E ≤ 12) (hh : h < E) (lX : Nat → Int64) : ∀ (fu i : Nat), i ≤ E → E - i < fu →
    f_X0_multiplyByFirstPeriod_L15 (nI E) aF KK fu lP lX (nI h) (dotL (fun i => lP i * (aF (144 * i + 12 * 0 + h)).toInt64) i) (nI i) = KK lP (vp_updL lX h (dotL (fun i => lP i * (aF (144 * i + 12 * 0 + h)).toInt64) E)) (nI h + 1) := by
  intro fu
  induction fu with
  | zero => intro i h1 h2; exact absurd h2 (Nat.not_lt_zero _)
  | succ fu ih =>
    intro i h1 h2
    rw [f_X0_multiplyByFirstPeriod_L15]
    rcases Nat.lt_or_ge i E with q | q
    · rw [if_neg (q_nle (by omega) (by omega) q), if_pos (inb_t (by omega) (by omega)), show (0 : Int32) = nI 0 from rfl, factorIndex_ok, Option.bind_some, if_pos (inb_t (by omega) (by omega)), nI_clamp (by omega), nI_clamp (by omega), q_s]
      exact ih (i + 1) (by omega) (by omega)
    · rw [if_pos (q_le (by omega) (by omega) q), if_pos (inb_t (by omega) (by omega)), nI_clamp (by omega), show i = E by omega]
theorem lp_m2 {E : Nat} {aF : Nat → Int32} {lP : Nat → Int64} (hE : E ≤ 12) : ∀ (fu h : Nat) (lX : Nat → Int64), h ≤ E → E - h < fu → (∀ h', h' < h → lX h' = dotL (fun i => lP i * (aF (144 * i + 12 * 0 + h')).toInt64) E) →
    ∃ lP' lX', f_X0_multiplyByFirstPeriod_L2 (nI E) aF fu lP lX (nI h) = some (lP', lX') ∧ ∀ h', h' < E → lP' h' = dotL (fun i => lP i * (aF (144 * i + 12 * 0 + h')).toInt64) E := by
  intro fu
  induction fu with
  | zero => intro h lX h1 h2; exact absurd h2 (Nat.not_lt_zero _)
  | succ fu ih =>
    intro h lX h1 h2 hA
    rw [f_X0_multiplyByFirstPeriod_L2]
    rcases Nat.lt_or_ge h E with q | q
    · have e := lp_m15 (aF := aF) (lP := lP) (KK := fun w0 w1 w2 => f_X0_multiplyByFirstPeriod_L2 (nI E) aF fu w0 w1 w2) hE q lX FU 0 (Nat.zero_le _) (by show _ < 2000; omega)
      rw [if_neg (q_nle (by omega) (by omega) q), show (0 : Int32) = nI 0 from rfl]
      rw [show (0 : Int64) = dotL (fun i => lP i * (aF (144 * i + 12 * 0 + h)).toInt64) 0 from rfl, e]
      show ∃ lP' lX', f_X0_multiplyByFirstPeriod_L2 _ _ _ _ _ (nI h + 1) = _ ∧ _
      rw [q_s]
      refine ih (h + 1) _ (by omega) (by omega) (fun h' hh => ?_)
      by_cases he : h' = h
      · rw [he, vL_s]
      · rw [vL_n he]
        exact hA h' (by omega)
    · rw [if_pos (q_le (by omega) (by omega) q)]
      refine ⟨_, _, rfl, fun h' hh => ?_⟩
      show cpr lX 12 lP h' = _
      unfold cpr
      rw [if_pos (by omega)]
      exact hA h' (by omega)
/-- a row that holds the k-th power of the first period -/
def VP (P E k : Nat) (lP : Nat → Int64) : Prop := ∀ i, i < E → lP i = (perP P E k).getD i 0
theorem multiplyByFirst_ok {P E k : Nat} (hE : E ≤ 12) (hE1 : 1 ≤ E) {aF : Nat → Int32} (hF : TF P E (g0 P) aF) {lP : Nat → Int64} (hP : VP P E k lP) (lX : Nat → Int64) : ∃ lP' lX', f_X0_multiplyByFirstPeriod (nI E) aF lP lX = some (lP', lX') ∧ VP P E (k + 1) lP' := by
  obtain ⟨lP', lX', e1, e2⟩ := lp_m2 (aF := aF) (lP := lP) hE FU 0 lX (Nat.zero_le _) (by show _ < 2000; omega) (fun h' hh => absurd hh (Nat.not_lt_zero _))
  refine ⟨lP', lX', e1, fun i hi => ?_⟩
  rw [e2 i hi]
  show _ = (nxtP P E (perP P E k)).getD i 0
  unfold nxtP
  rw [q_getD_map hi]
  refine dotL_cong (fun j hj => ?_)
  rw [hP j hj, hF j 0 i hj (by omega) hi]
theorem lp_s23 {P E k : Nat} {aF : Nat → Int32} {KK : (Nat → Int64) → (Nat → Int64) → (Nat → Int64) → Int32 → Option ((Nat → Int64) × (Nat → Int64) × (Nat → Int64))} (hE : E ≤ 12) (hE1 : 1 ≤ E) (hF : TF P E (g0 P) aF) (hk : k < 12) {lP : Nat → Int64} (hP : VP P E k lP) (lS lX : Nat → Int64) : ∀ (fu i : Nat), i ≤ E → E - i < fu →
    ∃ lP' lX', f_X0_findPowerSums_L23 (nI E) aF KK fu lS lP lX (nI (k + 1)) (dotL (fun i => lP i) i) (nI i) = KK (vp_updL lS (k + 1) (psm P E (k + 1))) lP' lX' (nI (k + 1) + 1) ∧ VP P E (k + 1) lP' := by
  intro fu
  induction fu with
  | zero => intro i h1 h2; exact absurd h2 (Nat.not_lt_zero _)
  | succ fu ih =>
    intro i h1 h2
    rw [f_X0_findPowerSums_L23]
    rcases Nat.lt_or_ge i E with q | q
    · rw [if_neg (q_nle (by omega) (by omega) q), if_pos (inb_t (by omega) (by omega)), nI_clamp (by omega), q_s]
      exact ih (i + 1) (by omega) (by omega)
    · obtain ⟨lP', lX', e1, e2⟩ := multiplyByFirst_ok hE hE1 hF hP lX
      rw [if_pos (q_le (by omega) (by omega) q), if_pos (inb_t (by omega) (by omega)), e1, Option.bind_some, nI_clamp (by omega)]
      refine ⟨lP', lX', ?_, e2⟩
      have e3 : -(dotL (fun i => lP i) i) = psm P E (k + 1) := by
        unfold psm
        rw [show i = E by omega, dotL_cong (fun j hj => hP j hj)]
        rfl
      rw [e3]
theorem lp_s10 {P E : Nat} {aF : Nat → Int32} (hE : E ≤ 12) (hE1 : 1 ≤ E) (hF : TF P E (g0 P) aF) : ∀ (fu k : Nat) (lS lP lX : Nat → Int64), k ≤ E → E - k < fu → VP P E k lP → (∀ j, 1 ≤ j → j ≤ k → lS j = psm P E j) →
    ∃ lS' lP' lX', f_X0_findPowerSums_L10 (nI E) aF fu lS lP lX (nI (k + 1)) = some (lS', lP', lX') ∧ ∀ j, 1 ≤ j → j ≤ E → lS' j = psm P E j := by
  intro fu
  induction fu with
  | zero => intro k lS lP lX h1 h2; exact absurd h2 (Nat.not_lt_zero _)
  | succ fu ih =>
    intro k lS lP lX h1 h2 hP hA
    rw [f_X0_findPowerSums_L10]
    rcases Nat.lt_or_ge k E with q | q
    · obtain ⟨lP', lX', e1, e2⟩ := lp_s23 (KK := fun w0 w1 w2 w3 => f_X0_findPowerSums_L10 (nI E) aF fu w0 w1 w2 w3) hE hE1 hF (show k < 12 by omega) hP lS lX FU 0 (Nat.zero_le _) (by show _ < 2000; omega)
      rw [if_neg (q_nlt (by omega) (by omega) (by omega)), show (0 : Int64) = dotL (fun i => lP i) 0 from rfl, show (0 : Int32) = nI 0 from rfl, e1]
      show ∃ lS' lP' lX', f_X0_findPowerSums_L10 _ _ _ _ _ _ (nI (k + 1) + 1) = _ ∧ _
      rw [q_s]
      refine ih (k + 1) _ _ _ (by omega) (by omega) e2 (fun j h1 h2 => ?_)
      by_cases he : j = k + 1
      · rw [he, vL_s]
      · rw [vL_n he]
        exact hA j h1 (by omega)
    · rw [if_pos (q_lt (by omega) (by omega) (by omega))]
      exact ⟨lS, lP, lX, rfl, fun j h1 h2 => hA j h1 (by omega)⟩
theorem findPowerSums_ok {P E : Nat} {aF : Nat → Int32} (hE : E ≤ 12) (hE1 : 1 ≤ E) (hF : TF P E (g0 P) aF) (lS lP lX : Nat → Int64) : ∃ lS' lP' lX', f_X0_findPowerSums (nI E) aF lS lP lX = some (lS', lP', lX') ∧ ∀ j, 1 ≤ j → j ≤ E → lS' j = psm P E j := by
  unfold f_X0_findPowerSums f_X4_setPeriodK
  rw [if_pos (show inb 0 12 = true by decide), Option.bind_some]
  refine lp_s10 hE hE1 hF FU 0 lS _ lX (Nat.zero_le _) (by show _ < 2000; omega) (fun i hi => ?_) (fun j h1 h2 => absurd h1 (by omega))
  show vp_updL _ (0 : Int32).toNatClampNeg 1 i = ((List.range E).map (fun i => if i = 0 then (1 : Int64) else 0)).getD i 0
  rw [q_getD_map hi, show (0 : Int32).toNatClampNeg = 0 by decide]
  by_cases h0 : i = 0
  · rw [if_pos h0, h0, vL_s]
  · rw [if_neg h0, vL_n h0]
    unfold swr
    rw [if_pos (by omega)]
    decide
/-- coefficients from E - k on are as told -/
def CO (P E k : Nat) (lC : Nat → Int64) : Prop := ∀ i, i ≤ k → lC (E - k + i) = (newt P E k).getD i 0
theorem lp_c29 {P E k : Nat} {aF : Nat → Int32} {KK : (Nat → Int64) → (Nat → Int64) → (Nat → Int64) → (Nat → Int64) → Int32 → Option ((Nat → Int64) × (Nat → Int64) × (Nat → Int64) × (Nat → Int64))} (hE : E ≤ 12) (hk : k < E) {lC lS : Nat → Int64} (hC : CO P E k lC) (hS : ∀ j, 1 ≤ j → j ≤ E → lS j = psm P E j) (lP lX : Nat → Int64) : ∀ (fu i : Nat), i ≤ k + 1 → k + 1 - i < fu →
    f_X0_findPolynomial_L29 (nI E) aF KK fu lC lS lP lX (nI (k + 1)) (dotL (fun i => psm P E (i + 1) * (newt P E k).getD i 0) i) (nI (i + 1)) = KK (vp_updL lC (E - (k + 1)) (-(dotL (fun i => psm P E (i + 1) * (newt P E k).getD i 0) (k + 1)) / (nI (k + 1)).toInt64)) lS lP lX (nI (k + 1) + 1) := by
  intro fu
  induction fu with
  | zero => intro i h1 h2; exact absurd h2 (Nat.not_lt_zero _)
  | succ fu ih =>
    intro i h1 h2
    rw [f_X0_findPolynomial_L29]
    rcases Nat.lt_or_ge i (k + 1) with q | q
    · rw [if_neg (q_nlt (by omega) (by omega) (by omega)), if_pos (inb_t (by omega) (by omega)), pk_sub (by omega), nI_add, if_pos (inb_t (by omega) (by omega)), nI_clamp (by omega), nI_clamp (by omega), q_s, hS (i + 1) (by omega) (by omega), show E - (k + 1) + (i + 1) = E - k + i by omega, hC i (by omega)]
      exact ih (i + 1) (by omega) (by omega)
    · have hne : ¬ (nI (k + 1)).toInt64 = 0 := by
        rw [nI_l (by omega)]
        exact fun w => absurd ((lN_eq (a := k + 1) (b := 0) (by omega) (by omega)).mp w) (by omega)
      rw [if_pos (q_lt (by omega) (by omega) (by omega)), if_neg hne, pk_sub (by omega), if_pos (inb_t (by omega) (by omega)), nI_clamp (by omega), show i = k + 1 by omega]
theorem CO_s {P E k : Nat} (hk : k < E) {lC : Nat → Int64} (hC : CO P E k lC) : CO P E (k + 1) (vp_updL lC (E - (k + 1)) (-(dotL (fun i => psm P E (i + 1) * (newt P E k).getD i 0) (k + 1)) / (nI (k + 1)).toInt64)) := by
  intro i hi
  show _ = (_ :: newt P E k).getD i 0
  cases i with
  | zero =>
    show vp_updL lC (E - (k + 1)) _ (E - (k + 1)) = _
    rw [vL_s]
    rfl
  | succ i =>
    rw [vL_n (by omega), show E - (k + 1) + (i + 1) = E - k + i by omega, hC i (by omega)]
    rfl
theorem lp_c16 {P E : Nat} {aF : Nat → Int32} (hE : E ≤ 12) : ∀ (fu k : Nat) (lC lS lP lX : Nat → Int64), k ≤ E → E - k < fu → CO P E k lC → (∀ j, 1 ≤ j → j ≤ E → lS j = psm P E j) →
    ∃ lC' lS' lP' lX', f_X0_findPolynomial_L16 (nI E) aF fu lC lS lP lX (nI (k + 1)) = some (lC', lS', lP', lX') ∧ CO P E E lC' := by
  intro fu
  induction fu with
  | zero => intro k lC lS lP lX h1 h2; exact absurd h2 (Nat.not_lt_zero _)
  | succ fu ih =>
    intro k lC lS lP lX h1 h2 hC hS
    rw [f_X0_findPolynomial_L16]
    rcases Nat.lt_or_ge k E with q | q
    · have e := lp_c29 (aF := aF) (KK := fun w0 w1 w2 w3 w4 => f_X0_findPolynomial_L16 (nI E) aF fu w0 w1 w2 w3 w4) hE q hC hS lP lX FU 0 (Nat.zero_le _) (by show _ < 2000; omega)
      rw [if_neg (q_nlt (by omega) (by omega) (by omega))]
      rw [show (0 : Int64) = dotL (fun i => psm P E (i + 1) * (newt P E k).getD i 0) 0 from rfl, show (1 : Int32) = nI (0 + 1) from rfl, e]
      show ∃ lC' lS' lP' lX', f_X0_findPolynomial_L16 _ _ _ _ _ _ _ (nI (k + 1) + 1) = _ ∧ _
      rw [q_s]
      exact ih (k + 1) _ _ _ _ (by omega) (by omega) (CO_s q hC) hS
    · rw [if_pos (q_lt (by omega) (by omega) (by omega))]
      obtain rfl : k = E := by omega
      exact ⟨lC, lS, lP, lX, rfl, hC⟩
theorem findPolynomial_ok {P E : Nat} {aF : Nat → Int32} (hE : E ≤ 12) (hE1 : 1 ≤ E) (hF : TF P E (g0 P) aF) (lC lS lP lX : Nat → Int64) : ∃ lC' lS' lP' lX', f_X0_findPolynomial (nI E) aF lC lS lP lX = some (lC', lS', lP', lX') ∧ ∀ k, k ≤ E → lC' k = pol P E k := by
  obtain ⟨lS', lP', lX', e1, h1⟩ := findPowerSums_ok hE hE1 hF lS lP lX
  unfold f_X0_findPolynomial
  rw [e1, Option.bind_some, if_pos (inb_t (by omega) (by omega)), nI_clamp (by omega)]
  obtain ⟨lC2, lS2, lP2, lX2, e2, h2⟩ := lp_c16 (P := P) (aF := aF) hE FU 0 (vp_updL lC E 1) lS' lP' lX' (Nat.zero_le _) (by show _ < 2000; omega) (fun i hi => by
    rw [show i = 0 by omega, Nat.sub_zero, Nat.add_zero, vL_s]; rfl) h1
  refine ⟨lC2, lS2, lP2, lX2, e2, fun k hk => ?_⟩
  have h3 := h2 k hk
  rw [Nat.sub_self, Nat.zero_add] at h3
  exact h3
theorem q_div {a d : Nat} (ha : a < 2 ^ 31) (h0 : 0 < d) (hd : d < 2 ^ 31) : nI a / nI d = nI (a / d) := pk_div ha h0 hd
theorem g0_ok {P : Nat} (hP : P ∈ prs) : isG P (g0 P) = true := (gens_bd P hP).2.2
/-- what RelK says of the class alone -/
def RC (P E g : Nat) (zp ze zf zg zn : Int32) (aG aW aR aN aF : Nat → Int32) (lC : Nat → Int64) : Prop := (zp = nI P ∧ ze = nI E ∧ zf = nI ((P - 1) / E) ∧ zg = nI g ∧ zn = nI (gens P).length) ∧ (∀ k, k < (gens P).length → aG k = nI ((gens P).getD k 0)) ∧ PW P g aW ∧ (∀ x, x < P → aR x = nI (x ^ E % P)) ∧ BN P E g aN ∧ TF P E g aF ∧ (∀ k, k ≤ E → lC k = pol P E k)
theorem settle_ok {P E : Nat} (hP : P ∈ prs) (hE1 : 1 ≤ E) (hE : E ≤ 12) (hd : (P - 1) % E = 0) (zp ze zf zg zn : Int32) (aG aW aR aN aF : Nat → Int32) (lC lS lP lX : Nat → Int64) :
    ∃ aG' aW' aR' aN' aF' lC' lS' lP' lX', f_X0_settle zp ze zf zg zn aG aW aR aN aF lC lS lP lX (nI P) (nI E) = some (nI P, nI E, nI ((P - 1) / E), nI (g0 P), nI (gens P).length, aG', aW', aR', aN', aF', lC', lS', lP', lX') ∧ RC P E (g0 P) (nI P) (nI E) (nI ((P - 1) / E)) (nI (g0 P)) (nI (gens P).length) aG' aW' aR' aN' aF' lC' := by
  have hb := prs_bd hP
  have hV : Vd P E (g0 P) := ⟨hP, hE1, hE, hd, g0_ok hP⟩
  obtain ⟨aG', e1, h1⟩ := findGenerators_ok hP zn aG
  obtain ⟨aR', e2, h2⟩ := findRaised_ok (P := P) (by omega) hb.2 hE aR
  obtain ⟨aW', aN', aF', e3, h3, h4, h5⟩ := takeGenerator_ok hV zg aW aN aF
  obtain ⟨lC', lS', lP', lX', e4, h6⟩ := findPolynomial_ok hE hE1 h5 lC lS lP lX
  have hg := h1 0 (gens_bd P hP).1
  refine ⟨aG', aW', aR', aN', aF', lC', lS', lP', lX', ?_, ⟨rfl, rfl, rfl, rfl, rfl⟩, h1, h3, h2, h4, h5, h6⟩
  unfold f_X0_settle
  rw [if_neg (q_ne0 (by omega) (by omega)), e1, Option.bind_some, e2, Option.bind_some, if_pos (show inb 0 61 = true by decide), q_pred (by omega), q_div (by omega) (by omega) (by omega)]
  show (f_X0_takeGenerator (nI P) (nI E) (nI ((P - 1) / E)) zg aW aN aF (aG' (0 : Int32).toNatClampNeg)).bind _ = _
  rw [show (0 : Int32).toNatClampNeg = 0 by decide, hg]
  show (f_X0_takeGenerator (nI P) (nI E) (nI ((P - 1) / E)) zg aW aN aF (nI (g0 P))).bind _ = _
  rw [e3, Option.bind_some]
  show (f_X0_findPolynomial (nI E) aF' lC lS lP lX).bind _ = _
  rw [e4, Option.bind_some]
