/-! WHAT IS TOO GREAT: told alike; sums and differences of rows -/
/-- what is told: the o open ones, then the last -/
def tS {α : Type} (t w : Nat → α) (o : Nat) (v : α) : Nat → α := fun i => if i < o then w i else if i = o then v else t i
theorem lp_rep {o : Nat} (ho : o ≤ 5) (aOs aOn : Nat → Int32) (v1 v2 ztc : Int32) (aT0 aN0 : Nat → Int32) : ∀ (fu k : Nat) (aTs aTn : Nat → Int32), k ≤ o → o - k < fu → (∀ i, aTs i = if i < k then aOs i else aT0 i) → (∀ i, aTn i = if i < k then aOn i else aN0 i) →
    f_X3_report_L2 aOs aOn v1 v2 fu ztc aTs aTn (nI o) (nI k) = some (0, nI (o + 1), tS aT0 aOs o v1, tS aN0 aOn o v2, 0) := by
  intro fu
  induction fu with
  | zero => intro k aTs aTn h1 h2; exact absurd h2 (Nat.not_lt_zero _)
  | succ fu ih =>
    intro k aTs aTn h1 h2 hA hB
    rw [f_X3_report_L2]
    rcases Nat.lt_or_ge k o with q | q
    · have n1 : ¬ nI o ≤ nI k := q_nle (by omega) (by omega) q
      have a1 : inb (nI k) 6 = true := inb_t (by omega) (by omega)
      simp only [if_neg n1, if_pos a1, nI_clamp (show k < 2 ^ 31 by omega), q_s]
      refine ih (k + 1) _ _ (by omega) (by omega) (fun i => ?_) (fun i => ?_)
      · by_cases e : i = k
        · rw [e, pk_us, if_pos (by omega)]
        · rw [pk_un e, hA i]
          by_cases e2 : i < k
          · rw [if_pos e2, if_pos (by omega)]
          · rw [if_neg e2, if_neg (by omega)]
      · by_cases e : i = k
        · rw [e, pk_us, if_pos (by omega)]
        · rw [pk_un e, hB i]
          by_cases e2 : i < k
          · rw [if_pos e2, if_pos (by omega)]
          · rw [if_neg e2, if_neg (by omega)]
    · obtain rfl : k = o := by omega
      have a1 : inb (nI k) 6 = true := inb_t (by omega) (by omega)
      have e1 : upd aTs k v1 = tS aT0 aOs k v1 := funext fun i => by
        by_cases e : i = k
        · rw [e, pk_us]; simp [tS]
        · rw [pk_un e, hA i]; simp [tS, e]
      have e2 : upd aTn k v2 = tS aN0 aOn k v2 := funext fun i => by
        by_cases e : i = k
        · rw [e, pk_us]; simp [tS]
        · rw [pk_un e, hB i]; simp [tS, e]
      rw [if_pos (q_le (by omega) (by omega) q), if_pos a1, if_pos a1, nI_clamp (by omega), q_s, e1, e2]
theorem report_ok {o : Nat} (ho : o ≤ 5) (ztc : Int32) (aTs aTn aOs aOn : Nat → Int32) (v1 v2 : Int32) : f_X3_report ztc aTs aTn (nI o) aOs aOn v1 v2 = some (0, nI (o + 1), tS aTs aOs o v1, tS aTn aOn o v2, 0) :=
  lp_rep ho aOs aOn v1 v2 ztc aTs aTn FU 0 aTs aTn (Nat.zero_le _) (by show _ < 2000; omega) (fun i => by rw [if_neg (Nat.not_lt_zero i)]) (fun i => by rw [if_neg (Nat.not_lt_zero i)])
theorem wrong_ok {o : Nat} (ho : o ≤ 5) (bOs bOn bSo bNu : Nat → Int32) (ytr yiw v1 v2 : Int32) : f_X5_wrong bOs bOn (nI o) bSo bNu ytr yiw v1 v2 = some (tS bSo bOs o v1, tS bNu bOn o v2, nI (o + 1), 1) := by
  have c1 : cpk 0 0 (nI o) 7 8 = true := cpk_ok (a := 0) (b := 0) (by omega) (by omega) (by decide) (by decide)
  have a1 : inb (nI o) 8 = true := inb_t (by omega) (by omega)
  have key : ∀ (w t : Nat → Int32) (v : Int32), upd (va_cpy w t 0 0 o) o v = tS t w o v := fun w t v => funext fun i => by
    by_cases e : i = o
    · rw [e, pk_us]; simp [tS]
    · rw [pk_un e]
      by_cases e2 : i < o
      · rw [pk_cpy_in (by omega) (by omega)]; simp [tS, e2]
      · rw [pk_cpy_out (by omega)]; simp [tS, e, e2]
  unfold f_X5_wrong
  rw [if_pos c1, if_pos c1, if_pos a1, if_pos a1, nI_clamp (by omega), show (0 : Int32).toNatClampNeg = 0 by decide, key, key, q_s]
/-- the OPEN ones alike, o of them -/
def OP (o : Nat) (aOs aOn bOs bOn : Nat → Int32) : Prop := ∀ i, i < o → aOs i = bOs i ∧ aOn i = bOn i
theorem relT_told {o : Nat} (ho : o ≤ 5) {aOs aOn bOs bOn : Nat → Int32} (h : OP o aOs aOn bOs bOn) (aTs aTn bSo bNu : Nat → Int32) (v1 v2 : Int32) : RelT (nI (o + 1)) (tS aTs aOs o v1) (tS aTn aOn o v2) 0 (tS bSo bOs o v1) (tS bNu bOn o v2) (nI (o + 1)) := by
  refine ⟨rfl, o + 1, by omega, rfl, rfl, fun i hi => ?_⟩
  by_cases e : i < o
  · obtain ⟨h1, h2⟩ := h i e
    simp [tS, e, h1, h2]
  · obtain rfl : i = o := by omega
    simp [tS]
theorem OP.zero (aOs aOn bOs bOn : Nat → Int32) : OP 0 aOs aOn bOs bOn := fun i hi => absurd hi (Nat.not_lt_zero i)
theorem OP.put {o : Nat} {aOs aOn bOs bOn : Nat → Int32} (h : OP o aOs aOn bOs bOn) (v1 v2 : Int32) : OP (o + 1) (upd aOs o v1) (upd aOn o v2) (upd bOs o v1) (upd bOn o v2) := fun i hi => by
  by_cases e : i = o
  · rw [e, pk_us, pk_us, pk_us, pk_us]; exact ⟨rfl, rfl⟩
  · rw [pk_un e, pk_un e, pk_un e, pk_un e]; exact h i (by omega)
theorem enter_ok {o : Nat} (ho : o < 5) (aOs aOn : Nat → Int32) (v1 v2 : Int32) : f_X3_enter (nI o) aOs aOn v1 v2 = some (nI (o + 1), upd aOs o v1, upd aOn o v2) := by
  unfold f_X3_enter
  have a1 : inb (nI o) 6 = true := inb_t (by omega) (by omega)
  rw [if_pos (show nI o < 5 from q_lt (b := 5) (by omega) (by omega) ho), if_pos a1, if_pos a1, nI_clamp (by omega), q_s]
theorem leave_ok {o : Nat} (ho : o < 100) : f_X3_leave (nI (o + 1)) = some (nI o) := by
  unfold f_X3_leave
  rw [if_neg (nI_nle (by omega) (by omega)), nI_pred]
theorem opens_ok {o : Nat} (ho : o < 7) (bOs bOn : Nat → Int32) (v1 v2 : Int32) : f_X5_opens bOs bOn (nI o) v1 v2 = some (upd bOs o v1, upd bOn o v2, nI (o + 1)) := by
  unfold f_X5_opens
  have a1 : inb (nI o) 7 = true := inb_t (by omega) (by omega)
  rw [if_pos a1, if_pos a1, nI_clamp (by omega), q_s]
/-- the first of k, k + 1, .., n of them, of which f -/
def fO (f : Nat → Bool) : Nat → Nat → Option Nat
  | 0, _ => none
  | n + 1, k => if f k = true then some k else fO f n (k + 1)
theorem lp_sum4 {E r1 r2 r3 o : Nat} (hE : E ≤ 12) (h1 : r1 ≠ 29) (h2 : r2 ≠ 29) (h3 : r3 ≠ 29) (ho : o ≤ 5) {a b : Nat → Int64} (ztc : Int32) (aTs aTn aOs aOn : Nat → Int32) (M0 : Nat → Nat → Int64) (ha : MR E r1 M0 a) (hb : MR E r2 M0 b) : ∀ (fu k : Nat) (M : Nat → Nat → Int64), k ≤ E → E - k < fu → (∀ h, h < k → M 29 h = a h + b h) → (∀ r, r ≠ 29 → M r = M0 r) →
    (∀ h, fO (fun h => ovS (a h) (b h)) (E - k) k = some h → ∃ M', f_X2_sum_L3 (nI E) aOs aOn r1 r2 r3 fu ztc aTs aTn (nI o) M (nI k) = some (0, nI (o + 1), tS aTs aOs o 4, tS aTn aOn o (nI h), 0, M') ∧ ∀ r, r ≠ 29 → M' r = M0 r) ∧
    (fO (fun h => ovS (a h) (b h)) (E - k) k = none → ∃ M', f_X2_sum_L3 (nI E) aOs aOn r1 r2 r3 fu ztc aTs aTn (nI o) M (nI k) = some (1, ztc, aTs, aTn, nI o, M') ∧ MR E r3 M' (fun h => a h + b h) ∧ ∀ r, r ≠ 29 → r ≠ r3 → M' r = M0 r) := by
  intro fu
  induction fu with
  | zero => intro k M g1 g2; exact absurd g2 (Nat.not_lt_zero _)
  | succ fu ih =>
    intro k M g1 g2 hA hB
    rw [f_X2_sum_L3]
    rcases Nat.lt_or_ge k E with q | q
    · have n1 : ¬ nI E ≤ nI k := q_nle (by omega) (by omega) q
      have a1 : ∀ r, inb (nI k) (rl r) = true := fun r => inb_t (rl_lt (by omega)) (by omega)
      have s1 : E - k = (E - (k + 1)) + 1 := by omega
      simp only [if_neg n1, if_pos (a1 _), nI_clamp (show k < 2 ^ 31 by omega), hB r1 h1, hB r2 h2, ha k q, hb k q, pu_sumFits, Option.bind_some]
      rw [s1, fO]
      by_cases e : ovS (a k) (b k) = true
      · simp only [e, if_pos, report_ok ho, Option.bind_some, ↓reduceIte]
        refine ⟨fun h hh => ?_, fun hh => absurd hh (by simp)⟩
        obtain rfl : k = h := Option.some.inj hh
        exact ⟨M, rfl, hB⟩
      · have e1 : ovS (a k) (b k) = false := Bool.eq_false_iff.mpr e
        have e2 : ¬ (1 : Int32) = 0 := by decide
        simp only [e1, Bool.false_eq_true, if_false, if_neg e2, q_s]
        refine ih (k + 1) _ (by omega) (by omega) (fun h hh => ?_) (fun r hr => by rw [up_n _ _ hr]; exact hB r hr)
        rw [up_s]
        by_cases e3 : h = k
        · rw [e3, vL_s]
        · rw [vL_n e3]
          exact hA h (by omega)
    · have s1 : E - k = 0 := by omega
      rw [if_pos (q_le (by omega) (by omega) q), copyRow_ok h3, Option.bind_some, s1]
      refine ⟨fun h hh => absurd hh (by simp [fO]), fun _ => ⟨_, rfl, fun h hh => ?_, fun r hr hr3 => by rw [up_n _ _ hr3]; exact hB r hr⟩⟩
      rw [up_s, cpr_in (by omega)]
      exact hA h (by omega)
theorem lp_sum5 {E ra rb o : Nat} (hE : E ≤ 12) (h1 : ra < 40) (h2 : rb < 40) (hab : rb ≠ ra) (ho : o ≤ 5) {a b : Nat → Int64} (bOs bOn bSo bNu : Nat → Int32) (ytr : Int32) (wM0 : Nat → Int64) (ha : FR E ra wM0 a) (hb : FR E rb wM0 b) : ∀ (fu k : Nat) (wMa : Nat → Int64), k ≤ E → E - k < fu → (∀ h, h < k → wMa (12 * ra + h) = a h + b h) → (∀ j, (∀ h, h < k → j ≠ 12 * ra + h) → wMa j = wM0 j) →
    (∀ h, fO (fun h => ovS (a h) (b h)) (E - k) k = some h → ∃ wMa', f_X5_adds_L3 (nI E) bOs bOn (nI o) (nI ra) (nI rb) 0 fu bSo bNu ytr 0 wMa (nI k) = some (tS bSo bOs o 4, tS bNu bOn o (nI h), nI (o + 1), 1, wMa')) ∧
    (fO (fun h => ovS (a h) (b h)) (E - k) k = none → ∃ wMa', f_X5_adds_L3 (nI E) bOs bOn (nI o) (nI ra) (nI rb) 0 fu bSo bNu ytr 0 wMa (nI k) = some (bSo, bNu, ytr, 0, wMa') ∧ FR E ra wMa' (fun h => a h + b h) ∧ FO E ra wM0 wMa') := by
  intro fu
  induction fu with
  | zero => intro k wMa g1 g2; exact absurd g2 (Nat.not_lt_zero _)
  | succ fu ih =>
    intro k wMa g1 g2 hA hB
    rw [f_X5_adds_L3]
    rcases Nat.lt_or_ge k E with q | q
    · have n1 : ¬ nI E ≤ nI k := q_nle (by omega) (by omega) q
      have a1 : inb (nI (12 * ra + k)) 480 = true := inb_t (by omega) (by omega)
      have a2 : inb (nI (12 * rb + k)) 480 = true := inb_t (by omega) (by omega)
      have w1 : wMa (12 * ra + k) = a k := by rw [hB _ (fun h hh => by omega)]; exact ha k q
      have w2 : wMa (12 * rb + k) = b k := by rw [hB _ (fun h hh => by omega)]; exact hb k q
      have s1 : E - k = (E - (k + 1)) + 1 := by omega
      have e0 : ¬ (1 : Int32) = 0 := by decide
      simp only [if_neg n1, pu_i12, if_pos a1, if_pos a2, nI_clamp (show 12 * ra + k < 2 ^ 31 by omega), nI_clamp (show 12 * rb + k < 2 ^ 31 by omega), w1, w2, pu_isSumOver, Option.bind_some, ↓reduceIte, if_neg e0]
      rw [s1, fO]
      by_cases e : ovS (a k) (b k) = true
      · obtain ⟨fu2, rfl⟩ : ∃ fu2, fu = fu2 + 1 := ⟨fu - 1, by omega⟩
        simp only [e, ↓reduceIte, if_neg e0, wrong_ok ho, Option.bind_some]
        refine ⟨fun h hh => ?_, fun hh => absurd hh (by simp)⟩
        obtain rfl : k = h := Option.some.inj hh
        rw [f_X5_adds_L3]
        simp only [if_neg e0, ite_self]
        exact ⟨_, rfl⟩
      · have e1 : ovS (a k) (b k) = false := Bool.eq_false_iff.mpr e
        simp only [e1, Bool.false_eq_true, ↓reduceIte, if_neg e0, q_s]
        refine ih (k + 1) _ (by omega) (by omega) (fun h hh => ?_) (fun j hj => ?_)
        · by_cases e3 : h = k
          · rw [e3, vL_s]
          · rw [vL_n (by omega)]
            exact hA h (by omega)
        · rw [vL_n (hj k (by omega))]
          exact hB j (fun h hh => hj h (by omega))
    · have s1 : E - k = 0 := by omega
      rw [if_pos (q_le (by omega) (by omega) q), s1]
      exact ⟨fun h hh => absurd hh (by simp [fO]), fun _ => ⟨_, rfl, fun h hh => hA h (by omega), fun j hj => hB j (fun h hh => hj h (by omega))⟩⟩
theorem sum_sim {E r1 r2 r3 ra rb o : Nat} (hE : E ≤ 12) (h1 : r1 ≠ 29) (h2 : r2 ≠ 29) (h3 : r3 ≠ 29) (h4 : ra < 40) (h5 : rb < 40) (hab : rb ≠ ra) (ho : o ≤ 5) {a b : Nat → Int64} (ztc : Int32) (aTs aTn : Nat → Int32) {aOs aOn bOs bOn : Nat → Int32} (hO : OP o aOs aOn bOs bOn) (bSo bNu : Nat → Int32) (ytr : Int32) {M : Nat → Nat → Int64} {wMa : Nat → Int64} (ha : MR E r1 M a) (hb : MR E r2 M b) (ha5 : FR E ra wMa a) (hb5 : FR E rb wMa b) :
    (∃ ztc' aTs' aTn' M' bSo' bNu' ytr' wMa', f_X2_sum (nI E) ztc aTs aTn (nI o) aOs aOn M r1 r2 r3 = some (0, ztc', aTs', aTn', 0, M') ∧ f_X5_adds (nI E) bOs bOn (nI o) bSo bNu ytr 0 wMa (nI ra) (nI rb) 0 = some (bSo', bNu', ytr', 1, wMa') ∧ RelT ztc' aTs' aTn' 0 bSo' bNu' ytr' ∧ ∀ r, r ≠ 29 → M' r = M r) ∨
    (∃ M' wMa' v, f_X2_sum (nI E) ztc aTs aTn (nI o) aOs aOn M r1 r2 r3 = some (1, ztc, aTs, aTn, nI o, M') ∧ f_X5_adds (nI E) bOs bOn (nI o) bSo bNu ytr 0 wMa (nI ra) (nI rb) 0 = some (bSo, bNu, ytr, 0, wMa') ∧ MR E r3 M' v ∧ FR E ra wMa' v ∧ (∀ r, r ≠ 29 → r ≠ r3 → M' r = M r) ∧ FO E ra wMa wMa') := by
  have k4 := lp_sum4 hE h1 h2 h3 ho ztc aTs aTn aOs aOn M ha hb FU 0 M (Nat.zero_le _) (by show _ < 2000; omega) (fun h hh => absurd hh (Nat.not_lt_zero _)) (fun _ _ => rfl)
  have k5 := lp_sum5 hE h4 h5 hab ho bOs bOn bSo bNu ytr wMa ha5 hb5 FU 0 wMa (Nat.zero_le _) (by show _ < 2000; omega) (fun h hh => absurd hh (Nat.not_lt_zero _)) (fun _ _ => rfl)
  cases hf : fO (fun h => ovS (a h) (b h)) (E - 0) 0 with
  | some h =>
    obtain ⟨M', e1, g1⟩ := k4.1 h hf
    obtain ⟨wMa', e2⟩ := k5.1 h hf
    exact Or.inl ⟨_, _, _, M', _, _, _, wMa', e1, e2, relT_told ho hO aTs aTn bSo bNu 4 (nI h), g1⟩
  | none =>
    obtain ⟨M', e1, g1, g2⟩ := k4.2 hf
    obtain ⟨wMa', e2, g3, g4⟩ := k5.2 hf
    exact Or.inr ⟨M', wMa', _, e1, e2, g1, g3, g2, g4⟩
theorem lp_difference4 {E r1 r2 r3 o : Nat} (hE : E ≤ 12) (h1 : r1 ≠ 29) (h2 : r2 ≠ 29) (h3 : r3 ≠ 29) (ho : o ≤ 5) {a b : Nat → Int64} (ztc : Int32) (aTs aTn aOs aOn : Nat → Int32) (M0 : Nat → Nat → Int64) (ha : MR E r1 M0 a) (hb : MR E r2 M0 b) : ∀ (fu k : Nat) (M : Nat → Nat → Int64), k ≤ E → E - k < fu → (∀ h, h < k → M 29 h = a h - b h) → (∀ r, r ≠ 29 → M r = M0 r) →
    (∀ h, fO (fun h => ovD (a h) (b h)) (E - k) k = some h → ∃ M', f_X2_difference_L3 (nI E) aOs aOn r1 r2 r3 fu ztc aTs aTn (nI o) M (nI k) = some (0, nI (o + 1), tS aTs aOs o 4, tS aTn aOn o (nI h), 0, M') ∧ ∀ r, r ≠ 29 → M' r = M0 r) ∧
    (fO (fun h => ovD (a h) (b h)) (E - k) k = none → ∃ M', f_X2_difference_L3 (nI E) aOs aOn r1 r2 r3 fu ztc aTs aTn (nI o) M (nI k) = some (1, ztc, aTs, aTn, nI o, M') ∧ MR E r3 M' (fun h => a h - b h) ∧ ∀ r, r ≠ 29 → r ≠ r3 → M' r = M0 r) := by
  intro fu
  induction fu with
  | zero => intro k M g1 g2; exact absurd g2 (Nat.not_lt_zero _)
  | succ fu ih =>
    intro k M g1 g2 hA hB
    rw [f_X2_difference_L3]
    rcases Nat.lt_or_ge k E with q | q
    · have n1 : ¬ nI E ≤ nI k := q_nle (by omega) (by omega) q
      have a1 : ∀ r, inb (nI k) (rl r) = true := fun r => inb_t (rl_lt (by omega)) (by omega)
      have s1 : E - k = (E - (k + 1)) + 1 := by omega
      simp only [if_neg n1, if_pos (a1 _), nI_clamp (show k < 2 ^ 31 by omega), hB r1 h1, hB r2 h2, ha k q, hb k q, pu_differenceFits, Option.bind_some]
      rw [s1, fO]
      by_cases e : ovD (a k) (b k) = true
      · simp only [e, if_pos, report_ok ho, Option.bind_some, ↓reduceIte]
        refine ⟨fun h hh => ?_, fun hh => absurd hh (by simp)⟩
        obtain rfl : k = h := Option.some.inj hh
        exact ⟨M, rfl, hB⟩
      · have e1 : ovD (a k) (b k) = false := Bool.eq_false_iff.mpr e
        have e2 : ¬ (1 : Int32) = 0 := by decide
        simp only [e1, Bool.false_eq_true, if_false, if_neg e2, q_s]
        refine ih (k + 1) _ (by omega) (by omega) (fun h hh => ?_) (fun r hr => by rw [up_n _ _ hr]; exact hB r hr)
        rw [up_s]
        by_cases e3 : h = k
        · rw [e3, vL_s]
        · rw [vL_n e3]
          exact hA h (by omega)
    · have s1 : E - k = 0 := by omega
      rw [if_pos (q_le (by omega) (by omega) q), copyRow_ok h3, Option.bind_some, s1]
      refine ⟨fun h hh => absurd hh (by simp [fO]), fun _ => ⟨_, rfl, fun h hh => ?_, fun r hr hr3 => by rw [up_n _ _ hr3]; exact hB r hr⟩⟩
      rw [up_s, cpr_in (by omega)]
      exact hA h (by omega)
theorem lp_difference5 {E ra rb o : Nat} (hE : E ≤ 12) (h1 : ra < 40) (h2 : rb < 40) (hab : rb ≠ ra) (ho : o ≤ 5) {a b : Nat → Int64} (bOs bOn bSo bNu : Nat → Int32) (ytr : Int32) (wM0 : Nat → Int64) (ha : FR E ra wM0 a) (hb : FR E rb wM0 b) : ∀ (fu k : Nat) (wMa : Nat → Int64), k ≤ E → E - k < fu → (∀ h, h < k → wMa (12 * ra + h) = a h - b h) → (∀ j, (∀ h, h < k → j ≠ 12 * ra + h) → wMa j = wM0 j) →
    (∀ h, fO (fun h => ovD (a h) (b h)) (E - k) k = some h → ∃ wMa', f_X5_adds_L3 (nI E) bOs bOn (nI o) (nI ra) (nI rb) 1 fu bSo bNu ytr 0 wMa (nI k) = some (tS bSo bOs o 4, tS bNu bOn o (nI h), nI (o + 1), 1, wMa')) ∧
    (fO (fun h => ovD (a h) (b h)) (E - k) k = none → ∃ wMa', f_X5_adds_L3 (nI E) bOs bOn (nI o) (nI ra) (nI rb) 1 fu bSo bNu ytr 0 wMa (nI k) = some (bSo, bNu, ytr, 0, wMa') ∧ FR E ra wMa' (fun h => a h - b h) ∧ FO E ra wM0 wMa') := by
  intro fu
  induction fu with
  | zero => intro k wMa g1 g2; exact absurd g2 (Nat.not_lt_zero _)
  | succ fu ih =>
    intro k wMa g1 g2 hA hB
    rw [f_X5_adds_L3]
    rcases Nat.lt_or_ge k E with q | q
    · have n1 : ¬ nI E ≤ nI k := q_nle (by omega) (by omega) q
      have a1 : inb (nI (12 * ra + k)) 480 = true := inb_t (by omega) (by omega)
      have a2 : inb (nI (12 * rb + k)) 480 = true := inb_t (by omega) (by omega)
      have w1 : wMa (12 * ra + k) = a k := by rw [hB _ (fun h hh => by omega)]; exact ha k q
      have w2 : wMa (12 * rb + k) = b k := by rw [hB _ (fun h hh => by omega)]; exact hb k q
      have s1 : E - k = (E - (k + 1)) + 1 := by omega
      have e0 : ¬ (1 : Int32) = 0 := by decide
      simp only [if_neg n1, pu_i12, if_pos a1, if_pos a2, nI_clamp (show 12 * ra + k < 2 ^ 31 by omega), nI_clamp (show 12 * rb + k < 2 ^ 31 by omega), w1, w2, pu_isLessOver, Option.bind_some, ↓reduceIte, if_neg e0]
      rw [s1, fO]
      by_cases e : ovD (a k) (b k) = true
      · obtain ⟨fu2, rfl⟩ : ∃ fu2, fu = fu2 + 1 := ⟨fu - 1, by omega⟩
        simp only [e, ↓reduceIte, if_neg e0, wrong_ok ho, Option.bind_some]
        refine ⟨fun h hh => ?_, fun hh => absurd hh (by simp)⟩
        obtain rfl : k = h := Option.some.inj hh
        rw [f_X5_adds_L3]
        simp only [if_neg e0, ite_self]
        exact ⟨_, rfl⟩
      · have e1 : ovD (a k) (b k) = false := Bool.eq_false_iff.mpr e
        simp only [e1, Bool.false_eq_true, ↓reduceIte, if_neg e0, q_s]
        refine ih (k + 1) _ (by omega) (by omega) (fun h hh => ?_) (fun j hj => ?_)
        · by_cases e3 : h = k
          · rw [e3, vL_s]
          · rw [vL_n (by omega)]
            exact hA h (by omega)
        · rw [vL_n (hj k (by omega))]
          exact hB j (fun h hh => hj h (by omega))
    · have s1 : E - k = 0 := by omega
      rw [if_pos (q_le (by omega) (by omega) q), s1]
      exact ⟨fun h hh => absurd hh (by simp [fO]), fun _ => ⟨_, rfl, fun h hh => hA h (by omega), fun j hj => hB j (fun h hh => hj h (by omega))⟩⟩
theorem difference_sim {E r1 r2 r3 ra rb o : Nat} (hE : E ≤ 12) (h1 : r1 ≠ 29) (h2 : r2 ≠ 29) (h3 : r3 ≠ 29) (h4 : ra < 40) (h5 : rb < 40) (hab : rb ≠ ra) (ho : o ≤ 5) {a b : Nat → Int64} (ztc : Int32) (aTs aTn : Nat → Int32) {aOs aOn bOs bOn : Nat → Int32} (hO : OP o aOs aOn bOs bOn) (bSo bNu : Nat → Int32) (ytr : Int32) {M : Nat → Nat → Int64} {wMa : Nat → Int64} (ha : MR E r1 M a) (hb : MR E r2 M b) (ha5 : FR E ra wMa a) (hb5 : FR E rb wMa b) :
    (∃ ztc' aTs' aTn' M' bSo' bNu' ytr' wMa', f_X2_difference (nI E) ztc aTs aTn (nI o) aOs aOn M r1 r2 r3 = some (0, ztc', aTs', aTn', 0, M') ∧ f_X5_adds (nI E) bOs bOn (nI o) bSo bNu ytr 0 wMa (nI ra) (nI rb) 1 = some (bSo', bNu', ytr', 1, wMa') ∧ RelT ztc' aTs' aTn' 0 bSo' bNu' ytr' ∧ ∀ r, r ≠ 29 → M' r = M r) ∨
    (∃ M' wMa' v, f_X2_difference (nI E) ztc aTs aTn (nI o) aOs aOn M r1 r2 r3 = some (1, ztc, aTs, aTn, nI o, M') ∧ f_X5_adds (nI E) bOs bOn (nI o) bSo bNu ytr 0 wMa (nI ra) (nI rb) 1 = some (bSo, bNu, ytr, 0, wMa') ∧ MR E r3 M' v ∧ FR E ra wMa' v ∧ (∀ r, r ≠ 29 → r ≠ r3 → M' r = M r) ∧ FO E ra wMa wMa') := by
  have k4 := lp_difference4 hE h1 h2 h3 ho ztc aTs aTn aOs aOn M ha hb FU 0 M (Nat.zero_le _) (by show _ < 2000; omega) (fun h hh => absurd hh (Nat.not_lt_zero _)) (fun _ _ => rfl)
  have k5 := lp_difference5 hE h4 h5 hab ho bOs bOn bSo bNu ytr wMa ha5 hb5 FU 0 wMa (Nat.zero_le _) (by show _ < 2000; omega) (fun h hh => absurd hh (Nat.not_lt_zero _)) (fun _ _ => rfl)
  cases hf : fO (fun h => ovD (a h) (b h)) (E - 0) 0 with
  | some h =>
    obtain ⟨M', e1, g1⟩ := k4.1 h hf
    obtain ⟨wMa', e2⟩ := k5.1 h hf
    exact Or.inl ⟨_, _, _, M', _, _, _, wMa', e1, e2, relT_told ho hO aTs aTn bSo bNu 4 (nI h), g1⟩
  | none =>
    obtain ⟨M', e1, g1, g2⟩ := k4.2 hf
    obtain ⟨wMa', e2, g3, g4⟩ := k5.2 hf
    exact Or.inr ⟨M', wMa', _, e1, e2, g1, g3, g2, g4⟩
theorem areShelves_ok (v1 v2 v3 : Int32) : f_X5_areShelves v1 v2 v3 = some (if inb v1 4 = true then if inb v2 4 = true then if inb v3 4 = true then 1 else 0 else 0 else 0) := by
  unfold f_X5_areShelves
  simp only [pu_shelf5, Option.bind_some, pu_if]
  by_cases h1 : inb v1 4 = true
  · by_cases h2 : inb v2 4 = true
    · by_cases h3 : inb v3 4 = true
      · simp only [if_pos h1, if_pos h2, if_pos h3]
      · simp only [if_pos h1, if_pos h2, if_neg h3]
    · simp only [if_pos h1, if_neg h2]
  · simp only [if_neg h1]
theorem takesBoth_ok {E s t : Nat} (hE : E ≤ 12) (hs : s < 4) (ht : t < 4) {wSh a b : Nat → Int64} (ha : FR E s wSh a) (hb : FR E t wSh b) (yop yiw : Int32) (wMa : Nat → Int64) : ∃ wMa', f_X5_takesBoth (nI E) wSh yop yiw wMa (nI s) (nI t) = some (0, 0, wMa') ∧ FR E 0 wMa' a ∧ FR E 1 wMa' b := by
  obtain ⟨w1, e1, h1, -⟩ := takes_ok (r := 0) (wMa := wMa) hE (by omega) hs ha
  obtain ⟨w2, e2, h2, h3⟩ := takes_ok (r := 1) (wMa := w1) hE (by omega) ht hb
  refine ⟨w2, ?_, h1.keep hE h3 (by decide), h2⟩
  unfold f_X5_takesBoth f_X5_begins_
  rw [Option.bind_some]
  refine (bind_of (show f_X5_takes (nI E) wSh wMa 0 (nI s) = some w1 from e1) _).trans ?_
  exact (bind_of (show f_X5_takes (nI E) wSh w1 1 (nI t) = some w2 from e2) _)
set_option maxRecDepth 4000 in
theorem op_add {zp : Int32} {ze : Int32} {zf : Int32} {zg : Int32} {zn : Int32} {aG : Nat → Int32} {aW : Nat → Int32} {aR : Nat → Int32} {aN : Nat → Int32} {aF : Nat → Int32} {lC : Nat → Int64} {lS : Nat → Int64} {lP : Nat → Int64} {lX : Nat → Int64} {ztc : Int32} {aTs : Nat → Int32} {aTn : Nat → Int32} {zoc : Int32} {aOs : Nat → Int32} {aOn : Nat → Int32} {aTp : Nat → Int32} {zln : Int32} {zpl : Int32} {zfa : Int32} {aSz : Nat → Int32} {zit : Int32} {zip : Int32} {zic : Int32} {zig : Int32} {M : Nat → Nat → Int64} {yp : Int32} {ye : Int32} {yg : Int32} {bPo : Nat → Int32} {bTb : Nat → Int32} {wSh : Nat → Int64} {wTe : Nat → Int64} {wNx : Nat → Int64} {bOs : Nat → Int32} {bOn : Nat → Int32} {yop : Int32} {bSo : Nat → Int32} {bNu : Nat → Int32} {ytr : Int32} {yiw : Int32} {wMa : Nat → Int64} {wPr : Nat → Int64} {bTp : Nat → Int32} {yln : Int32} {ypl : Int32} {yfa : Int32} {wLi : Nat → Int64} {bSi : Nat → Int32} {yhp : Int32} {yhe : Int32} {yhg : Int32} {wHs : Nat → Int64} {yhi : Int32} (h : Rel zp ze zf zg zn aG aW aR aN aF lC lS lP lX ztc aTs aTn zoc aOs aOn aTp zln zpl zfa aSz zit zip zic zig M yp ye yg bPo bTb wSh wTe wNx bOs bOn yop bSo bNu ytr yiw wMa wPr bTp yln ypl yfa wLi bSi yhp yhe yhg wHs yhi) (v1 : Int32) (v2 : Int32) (v3 : Int32) : ∃ z1 z2, f_X4_add ze ztc aTs aTn zoc aOs aOn M v1 v2 v3 = some z1 ∧ f_X5_add ye wSh bOs bOn yop bSo bNu ytr yiw wMa v1 v2 v3 = some z2 ∧ z1.1 = z2.1 ∧ Rel zp ze zf zg zn aG aW aR aN aF lC lS lP lX z1.2.1 z1.2.2.1 z1.2.2.2.1 z1.2.2.2.2.1 aOs aOn aTp zln zpl zfa aSz zit zip zic zig z1.2.2.2.2.2 yp ye yg bPo bTb z2.2.1 wTe wNx bOs bOn z2.2.2.1 z2.2.2.2.1 z2.2.2.2.2.1 z2.2.2.2.2.2.1 z2.2.2.2.2.2.2.1 z2.2.2.2.2.2.2.2 wPr bTp yln ypl yfa wLi bSi yhp yhe yhg wHs yhi := by
  obtain ⟨hK, hS, hT, hP, hL, hI⟩ := h
  obtain ⟨P, E, g, hV, ⟨rfl, rfl, rfl, rfl, rfl⟩, hG, hW, hRa, hN, hF, hC, ⟨rfl, rfl, rfl⟩, hPo, hTb⟩ := hK
  have hK : RelK (nI P) (nI E) (nI ((P - 1) / E)) (nI g) (nI (gens P).length) aG aW aR aN aF lC (nI P) (nI E) (nI g) bPo bTb := ⟨P, E, g, hV, ⟨rfl, rfl, rfl, rfl, rfl⟩, hG, hW, hRa, hN, hF, hC, ⟨rfl, rfl, rfl⟩, hPo, hTb⟩
  have hb := hV.bd
  unfold f_X4_add f_X5_add
  obtain ⟨rfl, hT2⟩ := hT
  have hT : RelT ztc aTs aTn 0 bSo bNu ytr := ⟨rfl, hT2⟩
  rw [areShelves_ok]
  simp only [pu_shelf4, Option.bind_some, pu_if]
  by_cases h1 : inb v1 4 = true
  · by_cases h2 : inb v2 4 = true
    · by_cases h3 : inb v3 4 = true
      · obtain ⟨s, hs, rfl⟩ := inb_ex h1 (by omega)
        obtain ⟨t, ht, rfl⟩ := inb_ex h2 (by omega)
        obtain ⟨u, hu, rfl⟩ := inb_ex h3 (by omega)
        have e0 : ¬ (1 : Int32) = 0 := by decide
        simp only [if_pos h1, if_pos h2, if_pos h3, if_neg e0, nI_clamp (show s < 2 ^ 31 by omega), nI_clamp (show t < 2 ^ 31 by omega), nI_clamp (show u < 2 ^ 31 by omega), Nat.zero_add]
        obtain ⟨wMb, e1, g1, g2⟩ := takesBoth_ok (by omega) hs ht (relS_row (by omega) hS hs) (relS_row (by omega) hS ht) yop yiw wMa
        rw [e1, Option.bind_some]
        rcases sum_sim (r3 := u) (ra := 0) (rb := 1) (o := 0) hb.2.2.2.1 (show s ≠ 29 by omega) (show t ≠ 29 by omega) (by omega) (by omega) (by omega) (by decide) (by omega) ztc aTs aTn (OP.zero aOs aOn bOs bOn) bSo bNu ytr (M := M) (wMa := wMb) (fun _ _ => rfl) (fun _ _ => rfl) g1 g2 with ⟨ztc', aTs', aTn', M', bSo', bNu', ytr', wMa', e2, e3, g3, g4⟩ | ⟨M', wMa', v, e2, e3, g3, g4, g5, g6⟩
        · have e2 : f_X2_sum (nI E) ztc aTs aTn 0 aOs aOn M s t u = some (0, ztc', aTs', aTn', 0, M') := e2
          have e3 : f_X5_adds (nI E) bOs bOn 0 bSo bNu ytr 0 wMb 0 1 0 = some (bSo', bNu', ytr', 1, wMa') := e3
          refine ⟨(-9, ztc', aTs', aTn', 0, M'), (-9, wSh, 0, bSo', bNu', ytr', 1, wMa'), ?_, ?_, rfl, hK, relS_low (by omega) hS (fun r hr => g4 r (by omega)), g3, hP, relL_M (fun r hr1 hr2 => g4 r (by omega)) hL, relI_M (fun r hr1 hr2 => g4 r (by omega)) hI⟩
          · rw [e2]; rfl
          · rw [e3]; rfl
        · have e2 : f_X2_sum (nI E) ztc aTs aTn 0 aOs aOn M s t u = some (1, ztc, aTs, aTn, 0, M') := e2
          have e3 : f_X5_adds (nI E) bOs bOn 0 bSo bNu ytr 0 wMb 0 1 0 = some (bSo, bNu, ytr, 0, wMa') := e3
          obtain ⟨wSh', e4, g7, g8⟩ := lays_ok (by omega) hu wSh g4
          refine ⟨(1, ztc, aTs, aTn, 0, M'), (1, wSh', 0, bSo, bNu, ytr, 0, wMa'), ?_, ?_, rfl, hK, relS_put (by omega) hS g3 (fun r hr1 hr2 => g5 r (by omega) hr2) g7 g8, hT, hP, relL_M (fun r hr1 hr2 => g5 r (by omega) (by omega)) hL, relI_M (fun r hr1 hr2 => g5 r (by omega) (by omega)) hI⟩
          · rw [e2]; rfl
          · rw [e3]
            exact bind_of e4 _
      · simp only [if_pos h1, if_pos h2, if_neg h3]
        exact ⟨_, _, rfl, rfl, rfl, hK, hS, hT, hP, hL, hI⟩
    · simp only [if_pos h1, if_neg h2]
      exact ⟨_, _, rfl, rfl, rfl, hK, hS, hT, hP, hL, hI⟩
  · simp only [if_neg h1]
    exact ⟨_, _, rfl, rfl, rfl, hK, hS, hT, hP, hL, hI⟩
set_option maxRecDepth 4000 in
theorem op_less {zp : Int32} {ze : Int32} {zf : Int32} {zg : Int32} {zn : Int32} {aG : Nat → Int32} {aW : Nat → Int32} {aR : Nat → Int32} {aN : Nat → Int32} {aF : Nat → Int32} {lC : Nat → Int64} {lS : Nat → Int64} {lP : Nat → Int64} {lX : Nat → Int64} {ztc : Int32} {aTs : Nat → Int32} {aTn : Nat → Int32} {zoc : Int32} {aOs : Nat → Int32} {aOn : Nat → Int32} {aTp : Nat → Int32} {zln : Int32} {zpl : Int32} {zfa : Int32} {aSz : Nat → Int32} {zit : Int32} {zip : Int32} {zic : Int32} {zig : Int32} {M : Nat → Nat → Int64} {yp : Int32} {ye : Int32} {yg : Int32} {bPo : Nat → Int32} {bTb : Nat → Int32} {wSh : Nat → Int64} {wTe : Nat → Int64} {wNx : Nat → Int64} {bOs : Nat → Int32} {bOn : Nat → Int32} {yop : Int32} {bSo : Nat → Int32} {bNu : Nat → Int32} {ytr : Int32} {yiw : Int32} {wMa : Nat → Int64} {wPr : Nat → Int64} {bTp : Nat → Int32} {yln : Int32} {ypl : Int32} {yfa : Int32} {wLi : Nat → Int64} {bSi : Nat → Int32} {yhp : Int32} {yhe : Int32} {yhg : Int32} {wHs : Nat → Int64} {yhi : Int32} (h : Rel zp ze zf zg zn aG aW aR aN aF lC lS lP lX ztc aTs aTn zoc aOs aOn aTp zln zpl zfa aSz zit zip zic zig M yp ye yg bPo bTb wSh wTe wNx bOs bOn yop bSo bNu ytr yiw wMa wPr bTp yln ypl yfa wLi bSi yhp yhe yhg wHs yhi) (v1 : Int32) (v2 : Int32) (v3 : Int32) : ∃ z1 z2, f_X4_less ze ztc aTs aTn zoc aOs aOn M v1 v2 v3 = some z1 ∧ f_X5_less ye wSh bOs bOn yop bSo bNu ytr yiw wMa v1 v2 v3 = some z2 ∧ z1.1 = z2.1 ∧ Rel zp ze zf zg zn aG aW aR aN aF lC lS lP lX z1.2.1 z1.2.2.1 z1.2.2.2.1 z1.2.2.2.2.1 aOs aOn aTp zln zpl zfa aSz zit zip zic zig z1.2.2.2.2.2 yp ye yg bPo bTb z2.2.1 wTe wNx bOs bOn z2.2.2.1 z2.2.2.2.1 z2.2.2.2.2.1 z2.2.2.2.2.2.1 z2.2.2.2.2.2.2.1 z2.2.2.2.2.2.2.2 wPr bTp yln ypl yfa wLi bSi yhp yhe yhg wHs yhi := by
  obtain ⟨hK, hS, hT, hP, hL, hI⟩ := h
  obtain ⟨P, E, g, hV, ⟨rfl, rfl, rfl, rfl, rfl⟩, hG, hW, hRa, hN, hF, hC, ⟨rfl, rfl, rfl⟩, hPo, hTb⟩ := hK
  have hK : RelK (nI P) (nI E) (nI ((P - 1) / E)) (nI g) (nI (gens P).length) aG aW aR aN aF lC (nI P) (nI E) (nI g) bPo bTb := ⟨P, E, g, hV, ⟨rfl, rfl, rfl, rfl, rfl⟩, hG, hW, hRa, hN, hF, hC, ⟨rfl, rfl, rfl⟩, hPo, hTb⟩
  have hb := hV.bd
  unfold f_X4_less f_X5_less
  obtain ⟨rfl, hT2⟩ := hT
  have hT : RelT ztc aTs aTn 0 bSo bNu ytr := ⟨rfl, hT2⟩
  rw [areShelves_ok]
  simp only [pu_shelf4, Option.bind_some, pu_if]
  by_cases h1 : inb v1 4 = true
  · by_cases h2 : inb v2 4 = true
    · by_cases h3 : inb v3 4 = true
      · obtain ⟨s, hs, rfl⟩ := inb_ex h1 (by omega)
        obtain ⟨t, ht, rfl⟩ := inb_ex h2 (by omega)
        obtain ⟨u, hu, rfl⟩ := inb_ex h3 (by omega)
        have e0 : ¬ (1 : Int32) = 0 := by decide
        simp only [if_pos h1, if_pos h2, if_pos h3, if_neg e0, nI_clamp (show s < 2 ^ 31 by omega), nI_clamp (show t < 2 ^ 31 by omega), nI_clamp (show u < 2 ^ 31 by omega), Nat.zero_add]
        obtain ⟨wMb, e1, g1, g2⟩ := takesBoth_ok (by omega) hs ht (relS_row (by omega) hS hs) (relS_row (by omega) hS ht) yop yiw wMa
        rw [e1, Option.bind_some]
        rcases difference_sim (r3 := u) (ra := 0) (rb := 1) (o := 0) hb.2.2.2.1 (show s ≠ 29 by omega) (show t ≠ 29 by omega) (by omega) (by omega) (by omega) (by decide) (by omega) ztc aTs aTn (OP.zero aOs aOn bOs bOn) bSo bNu ytr (M := M) (wMa := wMb) (fun _ _ => rfl) (fun _ _ => rfl) g1 g2 with ⟨ztc', aTs', aTn', M', bSo', bNu', ytr', wMa', e2, e3, g3, g4⟩ | ⟨M', wMa', v, e2, e3, g3, g4, g5, g6⟩
        · have e2 : f_X2_difference (nI E) ztc aTs aTn 0 aOs aOn M s t u = some (0, ztc', aTs', aTn', 0, M') := e2
          have e3 : f_X5_adds (nI E) bOs bOn 0 bSo bNu ytr 0 wMb 0 1 1 = some (bSo', bNu', ytr', 1, wMa') := e3
          refine ⟨(-9, ztc', aTs', aTn', 0, M'), (-9, wSh, 0, bSo', bNu', ytr', 1, wMa'), ?_, ?_, rfl, hK, relS_low (by omega) hS (fun r hr => g4 r (by omega)), g3, hP, relL_M (fun r hr1 hr2 => g4 r (by omega)) hL, relI_M (fun r hr1 hr2 => g4 r (by omega)) hI⟩
          · rw [e2]; rfl
          · rw [e3]; rfl
        · have e2 : f_X2_difference (nI E) ztc aTs aTn 0 aOs aOn M s t u = some (1, ztc, aTs, aTn, 0, M') := e2
          have e3 : f_X5_adds (nI E) bOs bOn 0 bSo bNu ytr 0 wMb 0 1 1 = some (bSo, bNu, ytr, 0, wMa') := e3
          obtain ⟨wSh', e4, g7, g8⟩ := lays_ok (by omega) hu wSh g4
          refine ⟨(1, ztc, aTs, aTn, 0, M'), (1, wSh', 0, bSo, bNu, ytr, 0, wMa'), ?_, ?_, rfl, hK, relS_put (by omega) hS g3 (fun r hr1 hr2 => g5 r (by omega) hr2) g7 g8, hT, hP, relL_M (fun r hr1 hr2 => g5 r (by omega) (by omega)) hL, relI_M (fun r hr1 hr2 => g5 r (by omega) (by omega)) hI⟩
          · rw [e2]; rfl
          · rw [e3]
            exact bind_of e4 _
      · simp only [if_pos h1, if_pos h2, if_neg h3]
        exact ⟨_, _, rfl, rfl, rfl, hK, hS, hT, hP, hL, hI⟩
    · simp only [if_pos h1, if_neg h2]
      exact ⟨_, _, rfl, rfl, rfl, hK, hS, hT, hP, hL, hI⟩
  · simp only [if_neg h1]
    exact ⟨_, _, rfl, rfl, rfl, hK, hS, hT, hP, hL, hI⟩

