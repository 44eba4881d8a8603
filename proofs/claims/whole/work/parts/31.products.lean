/-! PRODUCTS of rows: both find the same first trouble, or the same row -/
/-- one step: a trouble with its number and the sum so far, or the sum -/
def stP (a b : Int64) (t num : Int32) (s : Int64) : Sum (Int32 × Int32 × Int64) Int64 := if ovP a b = true then .inl (1, num, s) else if ovP (a * b) t.toInt64 = true then .inl (2, num, s) else if ovS s (a * b * t.toInt64) = true then .inl (3, num, s) else .inr (s + a * b * t.toInt64)
def roP (a : Int64) (b : Nat → Int64) (T num : Nat → Int32) : Nat → Nat → Int64 → Sum (Int32 × Int32 × Int64) Int64
  | 0, _, s => .inr s
  | n + 1, j, s => Sum.elim Sum.inl (fun s' => roP a b T num n (j + 1) s') (stP a (b j) (T j) (num j) s)
def maP (a b : Nat → Int64) (T num : Nat → Nat → Int32) (E : Nat) : Nat → Nat → Int64 → Sum (Int32 × Int32 × Int64) Int64
  | 0, _, s => .inr s
  | n + 1, i, s => Sum.elim Sum.inl (fun s' => maP a b T num E n (i + 1) s') (roP (a i) b (T i) (num i) E 0 s)
def nuP (h i j : Nat) : Int32 := 10000 * nI h + 100 * nI i + nI j
theorem lp_m4a {E i h r2 r3 o : Nat} (hE : E ≤ 12) (hi : i < E) (hh : h < E) (ho : o ≤ 5) {a b : Nat → Int64} {M : Nat → Nat → Int64} (ha : MR E r2 M a) (hb : MR E r3 M b) {aF : Nat → Int32} {T : Nat → Nat → Int32} (hF : ∀ i j, i < E → j < E → aF (144 * i + 12 * j + h) = T i j) (ztc : Int32) (aTs aTn aOs aOn : Nat → Int32) {KK : Int32 → (Nat → Int32) → (Nat → Int32) → Int32 → (Nat → Nat → Int64) → Int64 → Int32 → Option (Int32 × Int32 × (Nat → Int32) × (Nat → Int32) × Int32 × (Nat → Nat → Int64))} : ∀ (fu j : Nat) (s : Int64), j ≤ E → E - j < fu →
    f_X2_multiplyAt_L21 (nI E) aF aOs aOn (nI h) r2 r3 KK fu ztc aTs aTn (nI o) M s (nI i) (nI j) = Sum.elim (fun e => some (0, nI (o + 1), tS aTs aOs o e.1, tS aTn aOn o e.2.1, 0, M)) (fun s' => KK ztc aTs aTn (nI o) M s' (nI i + 1)) (roP (a i) b (T i) (nuP h i) (E - j) j s) := by
  intro fu
  induction fu with
  | zero => intro j s g1 g2; exact absurd g2 (Nat.not_lt_zero _)
  | succ fu ih =>
    intro j s g1 g2
    rw [f_X2_multiplyAt_L21]
    rcases Nat.lt_or_ge j E with q | q
    · have n1 : ¬ nI E ≤ nI j := q_nle (by omega) (by omega) q
      have a1 : ∀ r, inb (nI j) (rl r) = true := fun r => inb_t (rl_lt (by omega)) (by omega)
      have a2 : ∀ r, inb (nI i) (rl r) = true := fun r => inb_t (rl_lt (by omega)) (by omega)
      have a3 : inb (nI (144 * i + 12 * j + h)) 1728 = true := inb_t (by omega) (by omega)
      have s1 : E - j = (E - (j + 1)) + 1 := by omega
      have e0 : ¬ (1 : Int32) = 0 := by decide
      simp only [if_neg n1, if_pos (a1 _), if_pos (a2 _), factorIndex_ok, if_pos a3, nI_clamp (show j < 2 ^ 31 by omega), nI_clamp (show i < 2 ^ 31 by omega), nI_clamp (show 144 * i + 12 * j + h < 2 ^ 31 by omega), ha i hi, hb j q, hF i j hi q, pu_productFits, pu_sumFits, Option.bind_some]
      rw [s1, roP]
      by_cases c1 : ovP (a i) (b j) = true
      · have hs : stP (a i) (b j) (T i j) (nuP h i j) s = .inl (1, nuP h i j, s) := by unfold stP; rw [if_pos c1]
        simp only [c1, ↓reduceIte, report_ok ho, Option.bind_some, hs, Sum.elim_inl, true_or]
        rfl
      · have c1 : ovP (a i) (b j) = false := Bool.eq_false_iff.mpr c1
        by_cases c2 : ovP (a i * b j) (T i j).toInt64 = true
        · have hs : stP (a i) (b j) (T i j) (nuP h i j) s = .inl (2, nuP h i j, s) := by unfold stP; rw [c1, if_neg (by decide), if_pos c2]
          simp only [c1, c2, Bool.false_eq_true, ↓reduceIte, if_neg e0, report_ok ho, Option.bind_some, hs, Sum.elim_inl, true_or]
          rfl
        · have c2 : ovP (a i * b j) (T i j).toInt64 = false := Bool.eq_false_iff.mpr c2
          by_cases c3 : ovS s (a i * b j * (T i j).toInt64) = true
          · have hs : stP (a i) (b j) (T i j) (nuP h i j) s = .inl (3, nuP h i j, s) := by unfold stP; rw [c1, if_neg (by decide), c2, if_neg (by decide), if_pos c3]
            simp only [c1, c2, c3, Bool.false_eq_true, ↓reduceIte, if_neg e0, report_ok ho, Option.bind_some, hs, Sum.elim_inl, true_or]
            rfl
          · have c3 : ovS s (a i * b j * (T i j).toInt64) = false := Bool.eq_false_iff.mpr c3
            have hs : stP (a i) (b j) (T i j) (nuP h i j) s = .inr (s + a i * b j * (T i j).toInt64) := by unfold stP; rw [c1, if_neg (by decide), c2, if_neg (by decide), c3, if_neg (by decide)]
            simp only [c1, c2, c3, Bool.false_eq_true, ↓reduceIte, if_neg e0, hs, Sum.elim_inr, q_s j]
            exact ih (j + 1) _ (by omega) (by omega)
    · have s1 : E - j = 0 := by omega
      rw [if_pos (q_le (by omega) (by omega) q), s1]
      rfl
theorem lp_m4b {E h r2 r3 o : Nat} (hE : E ≤ 12) (hh : h < E) (ho : o ≤ 5) {a b : Nat → Int64} {M : Nat → Nat → Int64} (ha : MR E r2 M a) (hb : MR E r3 M b) {aF : Nat → Int32} {T : Nat → Nat → Int32} (hF : ∀ i j, i < E → j < E → aF (144 * i + 12 * j + h) = T i j) (ztc : Int32) (aTs aTn aOs aOn : Nat → Int32) : ∀ (fu i : Nat) (s : Int64), i ≤ E → E - i < fu →
    f_X2_multiplyAt_L6 (nI E) aF aOs aOn (nI h) r2 r3 fu ztc aTs aTn (nI o) M s (nI i) = Sum.elim (fun e => some (0, nI (o + 1), tS aTs aOs o e.1, tS aTn aOn o e.2.1, 0, M)) (fun s' => some (1, ztc, aTs, aTn, nI o, va_up M 29 (vp_updL (M 29) h s'))) (maP a b T (nuP h) E (E - i) i s) := by
  intro fu
  induction fu with
  | zero => intro i s g1 g2; exact absurd g2 (Nat.not_lt_zero _)
  | succ fu ih =>
    intro i s g1 g2
    rw [f_X2_multiplyAt_L6]
    rcases Nat.lt_or_ge i E with q | q
    · have s1 : E - i = (E - (i + 1)) + 1 := by omega
      rw [if_neg (q_nle (by omega) (by omega) q), s1, maP]
      refine (lp_m4a (KK := fun w0 w1 w2 w3 w4 w5 w6 => f_X2_multiplyAt_L6 (nI E) aF aOs aOn (nI h) r2 r3 fu w0 w1 w2 w3 w4 w5 w6) hE q hh ho ha hb hF ztc aTs aTn aOs aOn FU 0 s (Nat.zero_le _) (by show _ < 2000; omega)).trans ?_
      rw [Nat.sub_zero]
      cases hr : roP (a i) b (T i) (nuP h i) E 0 s with
      | inl e => rfl
      | inr s' =>
        show f_X2_multiplyAt_L6 _ _ _ _ _ _ _ _ _ _ _ _ _ _ (nI i + 1) = _
        rw [q_s]
        exact ih (i + 1) s' (by omega) (by omega)
    · have s1 : E - i = 0 := by omega
      have a1 : inb (nI h) (rl 29) = true := inb_t (rl_lt (by omega)) (by omega)
      rw [if_pos (q_le (by omega) (by omega) q), if_pos a1, s1, nI_clamp (by omega)]
      rfl
/-- what stands at h of the product -/
def prA (P E g : Nat) (a b : Nat → Int64) (h : Nat) : Sum (Int32 × Int32 × Int64) Int64 := maP a b (fun i j => tim P E g i j h) (nuP h) E E 0 0
def prV (P E g : Nat) (a b : Nat → Int64) (h : Nat) : Int64 := Sum.elim (fun _ => 0) id (prA P E g a b h)
theorem multiplyAt_ok {P E g h r2 r3 o : Nat} (hE : E ≤ 12) (hh : h < E) (ho : o ≤ 5) {a b : Nat → Int64} {M : Nat → Nat → Int64} (ha : MR E r2 M a) (hb : MR E r3 M b) {aF : Nat → Int32} (hF : TF P E g aF) (ztc : Int32) (aTs aTn aOs aOn : Nat → Int32) :
    f_X2_multiplyAt (nI E) aF ztc aTs aTn (nI o) aOs aOn M (nI h) r2 r3 = Sum.elim (fun e => some (0, nI (o + 1), tS aTs aOs o e.1, tS aTn aOn o e.2.1, 0, M)) (fun s' => some (1, ztc, aTs, aTn, nI o, va_up M 29 (vp_updL (M 29) h s'))) (prA P E g a b h) :=
  lp_m4b hE hh ho ha hb (T := fun i j => tim P E g i j h) (fun i j hi hj => hF i j h hi hj hh) ztc aTs aTn aOs aOn FU 0 0 (Nat.zero_le _) (by show _ < 2000; omega)
/-- the first trouble of k, k + 1, .., n of them -/
def fE (f : Nat → Sum (Int32 × Int32 × Int64) Int64) : Nat → Nat → Option (Int32 × Int32)
  | 0, _ => none
  | n + 1, k => Sum.elim (fun e => some (e.1, e.2.1)) (fun _ => fE f n (k + 1)) (f k)
theorem lp_m4c {P E g r1 r2 r3 o : Nat} (hE : E ≤ 12) (h1 : r1 ≠ 29) (h2 : r2 ≠ 29) (h3 : r3 ≠ 29) (ho : o ≤ 5) {a b : Nat → Int64} {aF : Nat → Int32} (hF : TF P E g aF) (ztc : Int32) (aTs aTn aOs aOn : Nat → Int32) (M0 : Nat → Nat → Int64) (ha : MR E r1 M0 a) (hb : MR E r2 M0 b) : ∀ (fu k : Nat) (M : Nat → Nat → Int64), k ≤ E → E - k < fu → (∀ h, h < k → M 29 h = prV P E g a b h) → (∀ r, r ≠ 29 → M r = M0 r) →
    (∀ e, fE (prA P E g a b) (E - k) k = some e → ∃ M', f_X2_multiply_L3 (nI E) aF aOs aOn r1 r2 r3 fu ztc aTs aTn (nI o) M (nI k) = some (0, nI (o + 1), tS aTs aOs o e.1, tS aTn aOn o e.2, 0, M') ∧ ∀ r, r ≠ 29 → M' r = M0 r) ∧
    (fE (prA P E g a b) (E - k) k = none → ∃ M', f_X2_multiply_L3 (nI E) aF aOs aOn r1 r2 r3 fu ztc aTs aTn (nI o) M (nI k) = some (1, ztc, aTs, aTn, nI o, M') ∧ MR E r3 M' (prV P E g a b) ∧ ∀ r, r ≠ 29 → r ≠ r3 → M' r = M0 r) := by
  intro fu
  induction fu with
  | zero => intro k M g1 g2; exact absurd g2 (Nat.not_lt_zero _)
  | succ fu ih =>
    intro k M g1 g2 hA hB
    rw [f_X2_multiply_L3]
    rcases Nat.lt_or_ge k E with q | q
    · have s1 : E - k = (E - (k + 1)) + 1 := by omega
      have ha2 : MR E r1 M a := fun h hh => by rw [hB r1 h1]; exact ha h hh
      have hb2 : MR E r2 M b := fun h hh => by rw [hB r2 h2]; exact hb h hh
      rw [if_neg (q_nle (by omega) (by omega) q), s1, fE, multiplyAt_ok hE q ho ha2 hb2 hF ztc aTs aTn aOs aOn]
      cases hp : prA P E g a b k with
      | inl e =>
        refine ⟨fun e2 he => ?_, fun he => absurd he (by simp)⟩
        obtain rfl : (e.1, e.2.1) = e2 := Option.some.inj he
        exact ⟨M, rfl, hB⟩
      | inr s' =>
        show (∀ e, fE _ _ (k + 1) = some e → ∃ M', f_X2_multiply_L3 _ _ _ _ _ _ _ _ _ _ _ _ _ (nI k + 1) = _ ∧ _) ∧ (fE _ _ (k + 1) = none → ∃ M', f_X2_multiply_L3 _ _ _ _ _ _ _ _ _ _ _ _ _ (nI k + 1) = _ ∧ _)
        rw [q_s]
        refine ih (k + 1) (va_up M 29 (vp_updL (M 29) k s')) (by omega) (by omega) (fun h hh => ?_) (fun r hr => by rw [up_n _ _ hr]; exact hB r hr)
        rw [up_s]
        by_cases e3 : h = k
        · rw [e3, vL_s]
          unfold prV
          rw [hp]
          rfl
        · rw [vL_n e3]
          exact hA h (by omega)
    · have s1 : E - k = 0 := by omega
      rw [if_pos (q_le (by omega) (by omega) q), copyRow_ok h3, Option.bind_some, s1]
      refine ⟨fun h hh => absurd hh (by simp [fE]), fun _ => ⟨_, rfl, fun h hh => ?_, fun r hr hr3 => by rw [up_n _ _ hr3]; exact hB r hr⟩⟩
      rw [up_s, cpr_in (by omega)]
      exact hA h (by omega)
theorem lp_m5a {P E g i h ra rb o : Nat} (hV : Vd P E g) (h1 : ra < 40) (h2 : rb < 40) (hi : i < E) (hh : h < E) (ho : o ≤ 5) {a b : Nat → Int64} {wMa : Nat → Int64} (ha : FR E ra wMa a) (hb : FR E rb wMa b) {bPo bTb : Nat → Int32} (hW : PW P g bPo) (hT : TB P E g bTb) (bOs bOn bSo bNu : Nat → Int32) (ytr : Int32) {KK : (Nat → Int32) → (Nat → Int32) → Int32 → Int32 → Int64 → Int32 → Option (Int64 × (Nat → Int32) × (Nat → Int32) × Int32 × Int32)} : ∀ (fu j : Nat) (s : Int64), j ≤ E → E - j < fu →
    f_X5_productAt_L25 (nI P) (nI E) bPo bTb bOs bOn (nI o) wMa (nI ra) (nI rb) (nI h) KK fu bSo bNu ytr 0 s (nI i) (nI j) = Sum.elim (fun e => KK (tS bSo bOs o e.1) (tS bNu bOn o e.2.1) (nI (o + 1)) 1 e.2.2 (nI i + 1)) (fun s' => KK bSo bNu ytr 0 s' (nI i + 1)) (roP (a i) b (fun j => tim P E g i j h) (nuP h i) (E - j) j s) := by
  have hbd := hV.bd
  have hE : E ≤ 12 := hbd.2.2.2.1
  intro fu
  induction fu with
  | zero => intro j s g1 g2; exact absurd g2 (Nat.not_lt_zero _)
  | succ fu ih =>
    intro j s g1 g2
    rw [f_X5_productAt_L25]
    rcases Nat.lt_or_ge j E with q | q
    · have n1 : ¬ nI E ≤ nI j := q_nle (by omega) (by omega) q
      have a1 : inb (nI (12 * ra + i)) 480 = true := inb_t (by omega) (by omega)
      have a2 : inb (nI (12 * rb + j)) 480 = true := inb_t (by omega) (by omega)
      have s1 : E - j = (E - (j + 1)) + 1 := by omega
      have e0 : ¬ (1 : Int32) = 0 := by decide
      obtain ⟨fu2, rfl⟩ : ∃ fu2, fu = fu2 + 1 := ⟨fu - 1, by omega⟩
      have stop : ∀ (w1 w2 : Nat → Int32) (w3 : Int32) (w4 : Int64) (w5 : Int32), f_X5_productAt_L25 (nI P) (nI E) bPo bTb bOs bOn (nI o) wMa (nI ra) (nI rb) (nI h) KK (fu2 + 1) w1 w2 w3 1 w4 (nI i) w5 = KK w1 w2 w3 1 w4 (nI i + 1) := by
        intro w1 w2 w3 w4 w5
        rw [f_X5_productAt_L25]
        simp only [if_neg e0, ite_self]
      simp only [if_neg n1, pu_i12, if_pos a1, if_pos a2, timesOf_ok hV hW hT hi q hh, nI_clamp (show 12 * ra + i < 2 ^ 31 by omega), nI_clamp (show 12 * rb + j < 2 ^ 31 by omega), ha i hi, hb j q, pu_isProductOver, pu_isSumOver, Option.bind_some, ↓reduceIte]
      rw [s1, roP]
      by_cases c1 : ovP (a i) (b j) = true
      · have hs : stP (a i) (b j) (tim P E g i j h) (nuP h i j) s = .inl (1, nuP h i j, s) := by unfold stP; rw [if_pos c1]
        simp only [c1, ↓reduceIte, if_neg e0, wrong_ok ho, Option.bind_some, hs, Sum.elim_inl, stop]
        rfl
      · have c1 : ovP (a i) (b j) = false := Bool.eq_false_iff.mpr c1
        by_cases c2 : ovP (a i * b j) (tim P E g i j h).toInt64 = true
        · have hs : stP (a i) (b j) (tim P E g i j h) (nuP h i j) s = .inl (2, nuP h i j, s) := by unfold stP; rw [c1, if_neg (by decide), if_pos c2]
          simp only [c1, c2, Bool.false_eq_true, ↓reduceIte, if_neg e0, wrong_ok ho, Option.bind_some, hs, Sum.elim_inl, stop]
          rfl
        · have c2 : ovP (a i * b j) (tim P E g i j h).toInt64 = false := Bool.eq_false_iff.mpr c2
          by_cases c3 : ovS s (a i * b j * (tim P E g i j h).toInt64) = true
          · have hs : stP (a i) (b j) (tim P E g i j h) (nuP h i j) s = .inl (3, nuP h i j, s) := by unfold stP; rw [c1, if_neg (by decide), c2, if_neg (by decide), if_pos c3]
            simp only [c1, c2, c3, Bool.false_eq_true, ↓reduceIte, if_neg e0, wrong_ok ho, Option.bind_some, hs, Sum.elim_inl, stop]
            rfl
          · have c3 : ovS s (a i * b j * (tim P E g i j h).toInt64) = false := Bool.eq_false_iff.mpr c3
            have hs : stP (a i) (b j) (tim P E g i j h) (nuP h i j) s = .inr (s + a i * b j * (tim P E g i j h).toInt64) := by unfold stP; rw [c1, if_neg (by decide), c2, if_neg (by decide), c3, if_neg (by decide)]
            simp only [c1, c2, c3, Bool.false_eq_true, ↓reduceIte, hs, Sum.elim_inr, q_s j]
            exact ih (j + 1) _ (by omega) (by omega)
    · have s1 : E - j = 0 := by omega
      rw [if_pos (q_le (by omega) (by omega) q), s1]
      rfl
theorem lp_m5b {P E g h ra rb o : Nat} (hV : Vd P E g) (h1 : ra < 40) (h2 : rb < 40) (hh : h < E) (ho : o ≤ 5) {a b : Nat → Int64} {wMa : Nat → Int64} (ha : FR E ra wMa a) (hb : FR E rb wMa b) {bPo bTb : Nat → Int32} (hW : PW P g bPo) (hT : TB P E g bTb) (bOs bOn bSo bNu : Nat → Int32) (ytr : Int32) : ∀ (fu i : Nat) (s : Int64), i ≤ E → E - i < fu →
    f_X5_productAt_L6 (nI P) (nI E) bPo bTb bOs bOn (nI o) wMa (nI ra) (nI rb) (nI h) fu bSo bNu ytr 0 s (nI i) = Sum.elim (fun e => some (e.2.2, tS bSo bOs o e.1, tS bNu bOn o e.2.1, nI (o + 1), 1)) (fun s' => some (s', bSo, bNu, ytr, 0)) (maP a b (fun i j => tim P E g i j h) (nuP h) E (E - i) i s) := by
  have hbd := hV.bd
  intro fu
  induction fu with
  | zero => intro i s g1 g2; exact absurd g2 (Nat.not_lt_zero _)
  | succ fu ih =>
    intro i s g1 g2
    rw [f_X5_productAt_L6]
    rcases Nat.lt_or_ge i E with q | q
    · have s1 : E - i = (E - (i + 1)) + 1 := by omega
      have e0 : ¬ (1 : Int32) = 0 := by decide
      rw [if_neg (q_nle (by omega) (by omega) q), if_pos rfl, s1, maP]
      refine (lp_m5a (KK := fun w0 w1 w2 w3 w4 w5 => f_X5_productAt_L6 (nI P) (nI E) bPo bTb bOs bOn (nI o) wMa (nI ra) (nI rb) (nI h) fu w0 w1 w2 w3 w4 w5) hV h1 h2 q hh ho ha hb hW hT bOs bOn bSo bNu ytr FU 0 s (Nat.zero_le _) (by show _ < 2000; omega)).trans ?_
      rw [Nat.sub_zero]
      cases hr : roP (a i) b (fun j => tim P E g i j h) (nuP h i) E 0 s with
      | inl e =>
        obtain ⟨fu2, rfl⟩ : ∃ fu2, fu = fu2 + 1 := ⟨fu - 1, by omega⟩
        simp only [Sum.elim_inl]
        rw [f_X5_productAt_L6]
        simp only [if_neg e0, ite_self]
      | inr s' =>
        simp only [Sum.elim_inr, q_s]
        exact ih (i + 1) s' (by omega) (by omega)
    · have s1 : E - i = 0 := by omega
      rw [if_pos (q_le (by omega) (by omega) q), s1]
      rfl
theorem productAt_ok {P E g h ra rb o : Nat} (hV : Vd P E g) (h1 : ra < 40) (h2 : rb < 40) (hh : h < E) (ho : o ≤ 5) {a b : Nat → Int64} {wMa : Nat → Int64} (ha : FR E ra wMa a) (hb : FR E rb wMa b) {bPo bTb : Nat → Int32} (hW : PW P g bPo) (hT : TB P E g bTb) (bOs bOn bSo bNu : Nat → Int32) (ytr : Int32) :
    f_X5_productAt (nI P) (nI E) bPo bTb bOs bOn (nI o) bSo bNu ytr 0 wMa (nI ra) (nI rb) (nI h) = Sum.elim (fun e => some (e.2.2, tS bSo bOs o e.1, tS bNu bOn o e.2.1, nI (o + 1), 1)) (fun s' => some (s', bSo, bNu, ytr, 0)) (prA P E g a b h) := by
  have hbd := hV.bd
  exact lp_m5b hV h1 h2 hh ho ha hb hW hT bOs bOn bSo bNu ytr FU 0 0 (Nat.zero_le _) (by show _ < 2000; omega)
theorem lp_m5c {P E g ra rb o : Nat} (hV : Vd P E g) (h1 : ra < 40) (h2 : rb < 40) (ho : o ≤ 5) {a b : Nat → Int64} {wMa : Nat → Int64} (ha : FR E ra wMa a) (hb : FR E rb wMa b) {bPo bTb : Nat → Int32} (hW : PW P g bPo) (hT : TB P E g bTb) (bOs bOn bSo bNu : Nat → Int32) (ytr : Int32) : ∀ (fu k : Nat) (wPr : Nat → Int64), k ≤ E → E - k < fu → (∀ h, h < k → wPr h = prV P E g a b h) →
    (∀ e, fE (prA P E g a b) (E - k) k = some e → ∃ wMa' wPr', f_X5_multiplies_L2 (nI P) (nI E) bPo bTb bOs bOn (nI o) (nI ra) (nI rb) fu bSo bNu ytr 0 wMa wPr (nI k) = some (tS bSo bOs o e.1, tS bNu bOn o e.2, nI (o + 1), 1, wMa', wPr')) ∧
    (fE (prA P E g a b) (E - k) k = none → ∃ wMa' wPr', f_X5_multiplies_L2 (nI P) (nI E) bPo bTb bOs bOn (nI o) (nI ra) (nI rb) fu bSo bNu ytr 0 wMa wPr (nI k) = some (bSo, bNu, ytr, 0, wMa', wPr') ∧ FR E ra wMa' (prV P E g a b) ∧ FO E ra wMa wMa') := by
  have hbd := hV.bd
  intro fu
  induction fu with
  | zero => intro k wPr g1 g2; exact absurd g2 (Nat.not_lt_zero _)
  | succ fu ih =>
    intro k wPr g1 g2 hA
    have c1 : cpk 0 (12 * nI ra) (nI E) 12 480 = true := by rw [q_12]; exact cpk_ok (a := 0) (by omega) (by omega) (by decide) (by decide)
    rw [f_X5_multiplies_L2]
    rcases Nat.lt_or_ge k E with q | q
    · have s1 : E - k = (E - (k + 1)) + 1 := by omega
      have e0 : ¬ (1 : Int32) = 0 := by decide
      have a1 : inb (nI k) 12 = true := inb_t (by omega) (by omega)
      rw [if_neg (q_nle (by omega) (by omega) q), if_pos rfl, s1, fE, productAt_ok hV h1 h2 q ho ha hb hW hT bOs bOn bSo bNu ytr]
      cases hp : prA P E g a b k with
      | inl e =>
        refine ⟨fun e2 he => ?_, fun he => absurd he (by simp)⟩
        obtain rfl : (e.1, e.2.1) = e2 := Option.some.inj he
        obtain ⟨fu2, rfl⟩ : ∃ fu2, fu = fu2 + 1 := ⟨fu - 1, by omega⟩
        simp only [Sum.elim_inl, Option.bind_some, if_pos a1]
        rw [f_X5_multiplies_L2]
        simp only [if_neg e0, if_pos c1, ite_self]
        exact ⟨_, _, rfl⟩
      | inr s' =>
        simp only [Sum.elim_inr, Option.bind_some, if_pos a1, q_s, nI_clamp (show k < 2 ^ 31 by omega)]
        refine ih (k + 1) _ (by omega) (by omega) (fun h hh => ?_)
        by_cases e3 : h = k
        · rw [e3, vL_s]
          unfold prV
          rw [hp]
          rfl
        · rw [vL_n e3]
          exact hA h (by omega)
    · have s1 : E - k = 0 := by omega
      rw [if_pos (q_le (by omega) (by omega) q), if_pos c1, s1]
      refine ⟨fun h hh => absurd hh (by simp [fE]), fun _ => ?_⟩
      have hp : FR E 0 wPr (prV P E g a b) := fun h hh => by rw [Nat.mul_zero, Nat.zero_add]; exact hA h (by omega)
      obtain ⟨g3, g4⟩ := cpy_row (r := ra) (g := wMa) hp
      refine ⟨_, _, rfl, ?_, ?_⟩
      · rw [q_12, nI_clamp (by omega), nI_clamp (by omega)]
        exact g3
      · rw [q_12, nI_clamp (by omega), nI_clamp (by omega)]
        exact g4
theorem multiply_sim {P E g r1 r2 r3 ra rb o : Nat} (hV : Vd P E g) (h1 : r1 ≠ 29) (h2 : r2 ≠ 29) (h3 : r3 ≠ 29) (h4 : ra < 40) (h5 : rb < 40) (ho : o ≤ 5) {a b : Nat → Int64} {aF bPo bTb : Nat → Int32} (hF : TF P E g aF) (hW : PW P g bPo) (hT : TB P E g bTb) (ztc : Int32) (aTs aTn : Nat → Int32) {aOs aOn bOs bOn : Nat → Int32} (hO : OP o aOs aOn bOs bOn) (bSo bNu : Nat → Int32) (ytr : Int32) {M : Nat → Nat → Int64} {wMa : Nat → Int64} (wPr : Nat → Int64) (ha : MR E r1 M a) (hb : MR E r2 M b) (ha5 : FR E ra wMa a) (hb5 : FR E rb wMa b) :
    (∃ ztc' aTs' aTn' M' bSo' bNu' ytr' wMa' wPr', f_X2_multiply (nI E) aF ztc aTs aTn (nI o) aOs aOn M r1 r2 r3 = some (0, ztc', aTs', aTn', 0, M') ∧ f_X5_multiplies (nI P) (nI E) bPo bTb bOs bOn (nI o) bSo bNu ytr 0 wMa wPr (nI ra) (nI rb) = some (bSo', bNu', ytr', 1, wMa', wPr') ∧ RelT ztc' aTs' aTn' 0 bSo' bNu' ytr' ∧ ∀ r, r ≠ 29 → M' r = M r) ∨
    (∃ M' wMa' wPr' v, f_X2_multiply (nI E) aF ztc aTs aTn (nI o) aOs aOn M r1 r2 r3 = some (1, ztc, aTs, aTn, nI o, M') ∧ f_X5_multiplies (nI P) (nI E) bPo bTb bOs bOn (nI o) bSo bNu ytr 0 wMa wPr (nI ra) (nI rb) = some (bSo, bNu, ytr, 0, wMa', wPr') ∧ MR E r3 M' v ∧ FR E ra wMa' v ∧ (∀ r, r ≠ 29 → r ≠ r3 → M' r = M r) ∧ FO E ra wMa wMa') := by
  have hbd := hV.bd
  have k4 := lp_m4c hbd.2.2.2.1 h1 h2 h3 ho hF ztc aTs aTn aOs aOn M ha hb FU 0 M (Nat.zero_le _) (by show _ < 2000; omega) (fun h hh => absurd hh (Nat.not_lt_zero _)) (fun _ _ => rfl)
  have k5 := lp_m5c hV h4 h5 ho ha5 hb5 hW hT bOs bOn bSo bNu ytr FU 0 wPr (Nat.zero_le _) (by show _ < 2000; omega) (fun h hh => absurd hh (Nat.not_lt_zero _))
  cases hf : fE (prA P E g a b) (E - 0) 0 with
  | some e =>
    obtain ⟨M', e1, g1⟩ := k4.1 e hf
    obtain ⟨wMa', wPr', e2⟩ := k5.1 e hf
    exact Or.inl ⟨_, _, _, M', _, _, _, wMa', wPr', e1, e2, relT_told ho hO aTs aTn bSo bNu e.1 e.2, g1⟩
  | none =>
    obtain ⟨M', e1, g1, g2⟩ := k4.2 hf
    obtain ⟨wMa', wPr', e2, g3, g4⟩ := k5.2 hf
    exact Or.inr ⟨M', wMa', wPr', _, e1, e2, g1, g3, g2, g4⟩
set_option maxRecDepth 4000 in
theorem op_product {zp : Int32} {ze : Int32} {zf : Int32} {zg : Int32} {zn : Int32} {aG : Nat → Int32} {aW : Nat → Int32} {aR : Nat → Int32} {aN : Nat → Int32} {aF : Nat → Int32} {lC : Nat → Int64} {lS : Nat → Int64} {lP : Nat → Int64} {lX : Nat → Int64} {ztc : Int32} {aTs : Nat → Int32} {aTn : Nat → Int32} {zoc : Int32} {aOs : Nat → Int32} {aOn : Nat → Int32} {aTp : Nat → Int32} {zln : Int32} {zpl : Int32} {zfa : Int32} {aSz : Nat → Int32} {zit : Int32} {zip : Int32} {zic : Int32} {zig : Int32} {M : Nat → Nat → Int64} {yp : Int32} {ye : Int32} {yg : Int32} {bPo : Nat → Int32} {bTb : Nat → Int32} {wSh : Nat → Int64} {wTe : Nat → Int64} {wNx : Nat → Int64} {bOs : Nat → Int32} {bOn : Nat → Int32} {yop : Int32} {bSo : Nat → Int32} {bNu : Nat → Int32} {ytr : Int32} {yiw : Int32} {wMa : Nat → Int64} {wPr : Nat → Int64} {bTp : Nat → Int32} {yln : Int32} {ypl : Int32} {yfa : Int32} {wLi : Nat → Int64} {bSi : Nat → Int32} {yhp : Int32} {yhe : Int32} {yhg : Int32} {wHs : Nat → Int64} {yhi : Int32} (h : Rel zp ze zf zg zn aG aW aR aN aF lC lS lP lX ztc aTs aTn zoc aOs aOn aTp zln zpl zfa aSz zit zip zic zig M yp ye yg bPo bTb wSh wTe wNx bOs bOn yop bSo bNu ytr yiw wMa wPr bTp yln ypl yfa wLi bSi yhp yhe yhg wHs yhi) (v1 : Int32) (v2 : Int32) (v3 : Int32) : ∃ z1 z2, f_X4_product ze aF ztc aTs aTn zoc aOs aOn M v1 v2 v3 = some z1 ∧ f_X5_product yp ye bPo bTb wSh bOs bOn yop bSo bNu ytr yiw wMa wPr v1 v2 v3 = some z2 ∧ z1.1 = z2.1 ∧ Rel zp ze zf zg zn aG aW aR aN aF lC lS lP lX z1.2.1 z1.2.2.1 z1.2.2.2.1 z1.2.2.2.2.1 aOs aOn aTp zln zpl zfa aSz zit zip zic zig z1.2.2.2.2.2 yp ye yg bPo bTb z2.2.1 wTe wNx bOs bOn z2.2.2.1 z2.2.2.2.1 z2.2.2.2.2.1 z2.2.2.2.2.2.1 z2.2.2.2.2.2.2.1 z2.2.2.2.2.2.2.2.1 z2.2.2.2.2.2.2.2.2 bTp yln ypl yfa wLi bSi yhp yhe yhg wHs yhi := by
  obtain ⟨hK, hS, hT, hP, hL, hI⟩ := h
  obtain ⟨P, E, g, hV, ⟨rfl, rfl, rfl, rfl, rfl⟩, hG, hW, hRa, hN, hF, hC, ⟨rfl, rfl, rfl⟩, hPo, hTb⟩ := hK
  have hK : RelK (nI P) (nI E) (nI ((P - 1) / E)) (nI g) (nI (gens P).length) aG aW aR aN aF lC (nI P) (nI E) (nI g) bPo bTb := ⟨P, E, g, hV, ⟨rfl, rfl, rfl, rfl, rfl⟩, hG, hW, hRa, hN, hF, hC, ⟨rfl, rfl, rfl⟩, hPo, hTb⟩
  have hb := hV.bd
  unfold f_X4_product f_X5_product
  obtain ⟨rfl, hT2⟩ := hT
  have hT : RelT ztc aTs aTn 0 bSo bNu ytr := ⟨rfl, hT2⟩
  rw [areShelves_ok]
  simp only [pu_shelf4, Option.bind_some, pu_if]
  by_cases h1 : inb v1 4 = true
  · by_cases h2 : inb v2 4 = true
    · by_cases h3 : inb v3 4 = true
      · obtain ⟨s, hs, rfl⟩ := inb_ex h1 (by omega)
        obtain ⟨t, ht, rfl⟩ := inb_ex h2 (by omega)
        obtain ⟨u, hu, rfl⟩ := inb_ex h3 (by omega)
        have e0 : ¬ (1 : Int32) = 0 := by decide
        simp only [if_pos h1, if_pos h2, if_pos h3, if_neg e0, nI_clamp (show s < 2 ^ 31 by omega), nI_clamp (show t < 2 ^ 31 by omega), nI_clamp (show u < 2 ^ 31 by omega), Nat.zero_add]
        obtain ⟨wMb, e1, g1, g2⟩ := takesBoth_ok (by omega) hs ht (relS_row (by omega) hS hs) (relS_row (by omega) hS ht) yop yiw wMa
        rw [e1, Option.bind_some]
        rcases multiply_sim (r3 := u) (ra := 0) (rb := 1) (o := 0) hV (show s ≠ 29 by omega) (show t ≠ 29 by omega) (by omega) (by omega) (by omega) (by omega) hF hPo hTb ztc aTs aTn (OP.zero aOs aOn bOs bOn) bSo bNu ytr (M := M) (wMa := wMb) wPr (fun _ _ => rfl) (fun _ _ => rfl) g1 g2 with ⟨ztc', aTs', aTn', M', bSo', bNu', ytr', wMa', wPr', e2, e3, g3, g4⟩ | ⟨M', wMa', wPr', v, e2, e3, g3, g4, g5, g6⟩
        · have e2 : f_X2_multiply (nI E) aF ztc aTs aTn 0 aOs aOn M s t u = some (0, ztc', aTs', aTn', 0, M') := e2
          have e3 : f_X5_multiplies (nI P) (nI E) bPo bTb bOs bOn 0 bSo bNu ytr 0 wMb wPr 0 1 = some (bSo', bNu', ytr', 1, wMa', wPr') := e3
          refine ⟨(-9, ztc', aTs', aTn', 0, M'), (-9, wSh, 0, bSo', bNu', ytr', 1, wMa', wPr'), ?_, ?_, rfl, hK, relS_low (by omega) hS (fun r hr => g4 r (by omega)), g3, hP, relL_M (fun r hr1 hr2 => g4 r (by omega)) hL, relI_M (fun r hr1 hr2 => g4 r (by omega)) hI⟩
          · rw [e2]; rfl
          · rw [e3]; rfl
        · have e2 : f_X2_multiply (nI E) aF ztc aTs aTn 0 aOs aOn M s t u = some (1, ztc, aTs, aTn, 0, M') := e2
          have e3 : f_X5_multiplies (nI P) (nI E) bPo bTb bOs bOn 0 bSo bNu ytr 0 wMb wPr 0 1 = some (bSo, bNu, ytr, 0, wMa', wPr') := e3
          obtain ⟨wSh', e4, g7, g8⟩ := lays_ok (by omega) hu wSh g4
          refine ⟨(1, ztc, aTs, aTn, 0, M'), (1, wSh', 0, bSo, bNu, ytr, 0, wMa', wPr'), ?_, ?_, rfl, hK, relS_put (by omega) hS g3 (fun r hr1 hr2 => g5 r (by omega) hr2) g7 g8, hT, hP, relL_M (fun r hr1 hr2 => g5 r (by omega) (by omega)) hL, relI_M (fun r hr1 hr2 => g5 r (by omega) (by omega)) hI⟩
          · rw [e2]; rfl
          · rw [e3]
            exact bind_of e4 _
      · simp only [if_pos h1, if_pos h2, if_neg h3]
        exact ⟨_, _, rfl, rfl, rfl, hK, hS, hT, hP, hL, hI⟩
    · simp only [if_pos h1, if_neg h2]
      exact ⟨_, _, rfl, rfl, rfl, hK, hS, hT, hP, hL, hI⟩
  · simp only [if_neg h1]
    exact ⟨_, _, rfl, rfl, rfl, hK, hS, hT, hP, hL, hI⟩

