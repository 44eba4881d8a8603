/-! READ: letters, figures, parts -/
def TP (n : Nat) (aTp bTp : Nat → Int32) : Prop := ∀ i, i < n → ∃ c : Nat, 32 ≤ c ∧ c ≤ 126 ∧ aTp i = nI c ∧ bTp i = nI c
def ltr (aTp : Nat → Int32) (n p : Nat) : Int32 := if p < n then aTp p else -1
theorem letter_ok {aTp : Nat → Int32} {n p : Nat} (hn : n ≤ 80) (hp : p ≤ n) : f_X1_letter aTp (nI n) (nI p) = some (ltr aTp n p) := by
  unfold f_X1_letter ltr
  rcases Nat.lt_or_ge p n with q | q
  · have a1 : inb (nI p) 80 = true := inb_t (by omega) (by omega)
    rw [if_neg (q_nle (by omega) (by omega) q), if_pos a1, if_pos q, nI_clamp (by omega)]
  · rw [if_pos (q_le (by omega) (by omega) q), if_neg (by omega)]
theorem ltr_eq {aTp bTp : Nat → Int32} {n p : Nat} (hT : TP n aTp bTp) (h : p < n) : ltr aTp n p = bTp p := by
  obtain ⟨c, -, -, e1, e2⟩ := hT p h
  unfold ltr
  rw [if_pos h, e1, e2]
theorem ltr_in {aTp : Nat → Int32} {n p : Nat} (h : ¬ ltr aTp n p = -1) : p < n := by
  rcases Nat.lt_or_ge p n with q | q
  · exact q
  · refine absurd ?_ h
    unfold ltr
    rw [if_neg (by omega)]
theorem ltr_m1 {aTp bTp : Nat → Int32} {n p : Nat} (hT : TP n aTp bTp) (h : ltr aTp n p = -1) : n ≤ p := by
  rcases Nat.lt_or_ge p n with q | q
  · obtain ⟨c, h1, h2, e1, e2⟩ := hT p q
    rw [ltr_eq hT q, e2] at h
    exact absurd h (m1_nI (by omega))
  · exact q
theorem isNext_ok {aTp bTp : Nat → Int32} {n p : Nat} {v : Int32} (hn : n ≤ 80) (hp : p ≤ n) (hT : TP n aTp bTp) (hv : ¬ v = -1) : f_X5_isNext bTp (nI n) (nI p) v = some (if ltr aTp n p = v then 1 else 0) := by
  unfold f_X5_isNext
  rcases Nat.lt_or_ge p n with q | q
  · have a1 : inb (nI p) 80 = true := inb_t (by omega) (by omega)
    rw [if_neg (q_nle (by omega) (by omega) q), if_pos a1, nI_clamp (by omega), ltr_eq hT q]
    by_cases c : bTp p = v
    · rw [if_pos c, if_pos c]
    · rw [if_neg c, if_neg c]
  · have e : ltr aTp n p = -1 := if_neg (by omega)
    rw [if_pos (q_le (by omega) (by omega) q), e, if_neg (fun w => hv w.symm)]
def fig (c : Int32) : Bool := decide (48 ≤ c.toInt) && decide (c.toInt ≤ 57)
theorem fig_iff {c : Int32} : fig c = true ↔ 48 ≤ c.toInt ∧ c.toInt ≤ 57 := by
  unfold fig
  rw [Bool.and_eq_true, decide_eq_true_eq, decide_eq_true_eq]
theorem isFigure4 (c : Int32) : f_X1_isFigure c = some (if fig c = true then 1 else 0) := by
  unfold f_X1_isFigure
  have e1 : c < 48 ↔ c.toInt < 48 := by rw [Int32.lt_iff_toInt_lt]; exact Iff.rfl
  have e2 : 57 < c ↔ 57 < c.toInt := by rw [Int32.lt_iff_toInt_lt]; exact Iff.rfl
  by_cases h1 : c.toInt < 48
  · rw [if_pos (e1.mpr h1), if_neg (fun w => by have := fig_iff.mp w; omega)]
  · by_cases h2 : 57 < c.toInt
    · rw [if_neg (fun w => h1 (e1.mp w)), if_pos (e2.mpr h2), if_neg (fun w => by have := fig_iff.mp w; omega)]
    · rw [if_neg (fun w => h1 (e1.mp w)), if_neg (fun w => h2 (e2.mp w)), if_pos (fig_iff.mpr (by omega))]
theorem isFigure5 {aTp bTp : Nat → Int32} {n p : Nat} (hn : n ≤ 80) (hp : p ≤ n) (hT : TP n aTp bTp) : f_X5_isFigure bTp (nI n) (nI p) = some (if fig (ltr aTp n p) = true then 1 else 0) := by
  unfold f_X5_isFigure
  rcases Nat.lt_or_ge p n with q | q
  · have a1 : inb (nI p) 80 = true := inb_t (by omega) (by omega)
    have e : ((48 : Int64) ≤ (bTp p).toInt64 ∧ (bTp p).toInt64 ≤ 57) ↔ fig (bTp p) = true := by
      rw [fig_iff, Int64.le_iff_toInt_le, Int64.le_iff_toInt_le, Int32.toInt_toInt64]
      exact Iff.rfl
    rw [if_neg (q_nle (by omega) (by omega) q), if_pos a1, nI_clamp (by omega), ltr_eq hT q, pu_in]
    by_cases c : fig (bTp p) = true
    · rw [if_pos (e.mpr c), if_pos c]; rfl
    · rw [if_neg (fun w => c (e.mp w)), if_neg c]; rfl
  · have e : ltr aTp n p = -1 := if_neg (by omega)
    have e2 : ¬ fig (-1) = true := by decide
    rw [if_pos (q_le (by omega) (by omega) q), e, if_neg e2]
theorem fig_in {aTp : Nat → Int32} {n p : Nat} (h : fig (ltr aTp n p) = true) : p < n := ltr_in (fun w => by rw [w] at h; exact absurd h (by decide))
theorem fig_nI {aTp bTp : Nat → Int32} {n p : Nat} (hT : TP n aTp bTp) (h : fig (ltr aTp n p) = true) : ∃ d, d ≤ 9 ∧ ltr aTp n p = nI (d + 48) ∧ bTp p = nI (d + 48) := by
  have q := fig_in h
  obtain ⟨c, h1, h2, e1, e2⟩ := hT p q
  have e3 : ltr aTp n p = nI c := by rw [ltr_eq hT q, e2]
  rw [e3, fig_iff, nI_toInt (by omega)] at h
  exact ⟨c - 48, by omega, by rw [e3, show c - 48 + 48 = c by omega], by rw [e2, show c - 48 + 48 = c by omega]⟩
theorem lp_fig {aTp bTp : Nat → Int32} {n m : Nat} (hn : n ≤ 80) (hm : m ≤ 3) (hT : TP n aTp bTp) (bOs bOn : Nat → Int32) (yop : Int32) (bSo bNu : Nat → Int32) (ytr yiw yfa : Int32) : ∀ (fu k p a : Nat), p ≤ n → k ≤ m → m - k < fu → a < 10 ^ k →
    ∃ a' p', f_X1_readFigures_L4 aTp (nI n) (nI m) fu (nI p) (nI a) (nI k) = some (nI a', nI p') ∧ f_X5_figures_L21 bOs bOn yop bTp (nI n) (nI m) fu bSo bNu ytr yiw (nI p) yfa (nI a) (nI k) = some (nI a', bSo, bNu, ytr, yiw, nI p', yfa) ∧ a' < 1000 ∧ p ≤ p' ∧ p' ≤ n ∧ (k < m → fig (ltr aTp n p) = true → p < p') := by
  intro fu
  induction fu with
  | zero => intro k p a g1 g2 g3; exact absurd g3 (Nat.not_lt_zero _)
  | succ fu ih =>
    intro k p a g1 g2 g3 g4
    have hl : a < 1000 := Nat.lt_of_lt_of_le g4 (Nat.le_trans (Nat.pow_le_pow_right (by decide) (show k ≤ 3 by omega)) (by decide))
    rw [f_X1_readFigures_L4, f_X5_figures_L21]
    rcases Nat.lt_or_ge k m with q | q
    · rw [if_neg (q_nle (by omega) (by omega) q), if_neg (q_nle (by omega) (by omega) q), letter_ok hn g1, Option.bind_some, isFigure4, Option.bind_some, isFigure5 hn g1 hT, Option.bind_some]
      by_cases c : fig (ltr aTp n p) = true
      · obtain ⟨d, hd, e1, e2⟩ := fig_nI hT c
        have hp := fig_in c
        have e0 : ¬ (1 : Int32) = 0 := by decide
        have a1 : inb (nI p) 80 = true := inb_t (by omega) (by omega)
        have e5 : 10 * nI a + nI (d + 48) - 48 = nI (10 * a + d) := by
          rw [show (10 : Int32) = nI 10 from rfl, show (48 : Int32) = nI 48 from rfl, pk_mul, nI_add, pk_sub (by omega), show 10 * a + (d + 48) - 48 = 10 * a + d by omega]
        rw [if_pos c, if_neg e0, Option.bind_some, if_neg e0, if_pos a1, nI_clamp (by omega), e1, e2, e5, q_s, q_s]
        obtain ⟨a', p', b1, b2, b3, b4, b5, -⟩ := ih (k + 1) (p + 1) (10 * a + d) (by omega) (by omega) (by omega) (by rw [Nat.pow_succ]; omega)
        exact ⟨a', p', b1, b2, b3, by omega, b5, fun _ _ => by omega⟩
      · rw [if_neg c, if_pos rfl, Option.bind_some, if_pos rfl]
        exact ⟨a, p, rfl, rfl, hl, Nat.le_refl _, g1, fun _ w => absurd w c⟩
    · rw [if_pos (q_le (by omega) (by omega) q), if_pos (q_le (by omega) (by omega) q)]
      exact ⟨a, p, rfl, rfl, hl, Nat.le_refl _, g1, fun w => absurd w (by omega)⟩
theorem figures_ok {aTp bTp : Nat → Int32} {n m p : Nat} (hn : n ≤ 80) (hm : m ≤ 3) (hm1 : 1 ≤ m) (hT : TP n aTp bTp) (hf : fig (ltr aTp n p) = true) (bOs bOn : Nat → Int32) (yop : Int32) (bSo bNu : Nat → Int32) (ytr yiw yfa : Int32) : ∃ a' p', f_X1_readFigures aTp (nI n) (nI p) (nI m) = some (nI a', nI p') ∧ f_X5_figures bOs bOn yop bSo bNu ytr yiw bTp (nI n) (nI p) yfa (nI m) = some (nI a', bSo, bNu, ytr, yiw, nI p', yfa) ∧ a' < 1000 ∧ p < p' ∧ p' ≤ n := by
  have hp := fig_in hf
  obtain ⟨a', p', b1, b2, b3, b4, b5, b6⟩ := lp_fig hn hm hT bOs bOn yop bSo bNu ytr yiw yfa FU 0 p 0 (by omega) (Nat.zero_le _) (by show _ < 2000; omega) (by decide)
  have e0 : ¬ (1 : Int32) = 0 := by decide
  refine ⟨a', p', b1, ?_, b3, b6 (by omega) hf, b5⟩
  unfold f_X5_figures
  rw [isFigure5 hn (by omega) hT, Option.bind_some, if_pos hf, if_neg e0]
  exact b2
theorem figures_no {aTp bTp : Nat → Int32} {n p o : Nat} {m : Int32} (hn : n ≤ 80) (hp : p ≤ n) (ho : o ≤ 5) (hT : TP n aTp bTp) (hf : ¬ fig (ltr aTp n p) = true) (bOs bOn : Nat → Int32) (bSo bNu : Nat → Int32) (ytr yiw yfa : Int32) : f_X5_figures bOs bOn (nI o) bSo bNu ytr yiw bTp (nI n) (nI p) yfa m = some (0, tS bSo bOs o 7, tS bNu bOn o (nI p), nI (o + 1), 1, nI p, nI p) := by
  unfold f_X5_figures f_X5_faulty
  rw [isFigure5 hn hp hT, Option.bind_some, if_neg hf, if_pos rfl, wrong_ok ho]
  rfl
theorem faultAt_ok {o : Nat} (ho : o ≤ 5) (ztc : Int32) (aTs aTn aOs aOn : Nat → Int32) (zfa v : Int32) : f_X1_faultAt ztc aTs aTn (nI o) aOs aOn zfa v = some (0, nI (o + 1), tS aTs aOs o 7, tS aTn aOn o v, 0, v) := by
  unfold f_X1_faultAt
  rw [report_ok ho]
  rfl
theorem faulty_ok {o : Nat} (ho : o ≤ 5) (bOs bOn bSo bNu : Nat → Int32) (ytr yiw yfa v : Int32) : f_X5_faulty bOs bOn (nI o) bSo bNu ytr yiw yfa v = some (tS bSo bOs o 7, tS bNu bOn o v, nI (o + 1), 1, v) := by
  unfold f_X5_faulty
  rw [wrong_ok ho]
  rfl
/-- what a reading method of the class gives, and one of the reference -/
abbrev C4 := Int32 × Int32 × (Nat → Int32) × (Nat → Int32) × Int32 × (Nat → Int32) × (Nat → Int32) × Int32 × Int32 × (Nat → Nat → Int64)
abbrev C5 := (Nat → Int32) × (Nat → Int32) × Int32 × (Nat → Int32) × (Nat → Int32) × Int32 × Int32 × (Nat → Int64) × (Nat → Int64) × Int32 × Int32
/-- both fail, telling the same -/
def RdF (M : Nat → Nat → Int64) (zc : C4) (zr : C5) : Prop := ∃ (ztc' : Int32) (aTs' aTn' aOs' aOn' : Nat → Int32) (zpl' zfa' : Int32) (M' : Nat → Nat → Int64) (bOs' bOn' : Nat → Int32) (yop' : Int32) (bSo' bNu' : Nat → Int32) (ytr' : Int32) (wMa' wPr' : Nat → Int64) (ypl' : Int32), zc = (0, ztc', aTs', aTn', 0, aOs', aOn', zpl', zfa', M') ∧ zr = (bOs', bOn', yop', bSo', bNu', ytr', 1, wMa', wPr', ypl', zfa') ∧ RelT ztc' aTs' aTn' 0 bSo' bNu' ytr' ∧ (zfa' = -1 ∨ ∃ f : Nat, f ≤ 80 ∧ zfa' = nI f) ∧ ∀ x, x < 11 → M' x = M x
/-- rows that stay as they are -/
def Uf (a b c x : Nat) : Prop := x < 11 ∨ (11 ≤ x ∧ x < a) ∨ (17 ≤ x ∧ x < b) ∨ (23 ≤ x ∧ x < c)
def KM (a b c : Nat) (M M' : Nat → Nat → Int64) : Prop := ∀ x, Uf a b c x → M' x = M x
def KW (E r : Nat) (W W' : Nat → Int64) : Prop := ∀ x h, x < r → h < E → W' (12 * x + h) = W (12 * x + h)
/-- both go on, from the place p on, the row cr of the class being the r-th of the reference -/
def RdO (E n o cr r a b c p : Nat) (ztc : Int32) (aTs aTn bSo bNu : Nat → Int32) (ytr : Int32) (M : Nat → Nat → Int64) (wMa : Nat → Int64) (zc : C4) (zr : C5) : Prop := ∃ (aOs' aOn' : Nat → Int32) (p' : Nat) (M' : Nat → Nat → Int64) (bOs' bOn' : Nat → Int32) (wMa' wPr' v : Nat → Int64), zc = (1, ztc, aTs, aTn, nI o, aOs', aOn', nI p', -1, M') ∧ zr = (bOs', bOn', nI o, bSo, bNu, ytr, 0, wMa', wPr', nI p', -1) ∧ OP o aOs' aOn' bOs' bOn' ∧ p ≤ p' ∧ p' ≤ n ∧ MR E cr M' v ∧ FR E r wMa' v ∧ KM a b c M M' ∧ KW E r wMa wMa'
/-- from one state on, both give the like -/
def SimG (E n o cr r a b c : Nat) (F4 : Int32 → (Nat → Int32) → (Nat → Int32) → Int32 → (Nat → Int32) → (Nat → Int32) → Int32 → Int32 → (Nat → Nat → Int64) → Option C4) (F5 : (Nat → Int32) → (Nat → Int32) → Int32 → (Nat → Int32) → (Nat → Int32) → Int32 → Int32 → (Nat → Int64) → (Nat → Int64) → Int32 → Int32 → Option C5) : Prop :=
  ∀ (ztc : Int32) (aTs aTn aOs aOn : Nat → Int32) (M : Nat → Nat → Int64) (bOs bOn bSo bNu : Nat → Int32) (ytr : Int32) (wMa wPr : Nat → Int64) (p : Nat), p ≤ n → OP o aOs aOn bOs bOn → ∃ zc zr, F4 ztc aTs aTn (nI o) aOs aOn (nI p) (-1) M = some zc ∧ F5 bOs bOn (nI o) bSo bNu ytr 0 wMa wPr (nI p) (-1) = some zr ∧ (RdF M zc zr ∨ RdO E n o cr r a b c (p + 1) ztc aTs aTn bSo bNu ytr M wMa zc zr)
theorem KW.refl (E r : Nat) (W : Nat → Int64) : KW E r W W := fun _ _ _ _ => rfl
theorem KW.of_FO {E r : Nat} {W W' : Nat → Int64} (hE : E ≤ 12) (h : FO E r W W') : KW E r W W' := fun x i hx hi => h.row hE (by omega) hi
theorem KW.trans {E r s : Nat} {W W' W'' : Nat → Int64} (h1 : KW E r W W') (h2 : KW E s W' W'') (hs : r ≤ s) : KW E r W W'' := fun x i hx hi => (h2 x i (by omega) hi).trans (h1 x i hx hi)
theorem KW.down {E r s : Nat} {W W' : Nat → Int64} (h1 : KW E s W W') (hs : r ≤ s) : KW E r W W' := fun x i hx hi => h1 x i (by omega) hi
theorem KW.row {E r x : Nat} {W W' v : Nat → Int64} (h : KW E r W W') (hx : x < r) (hf : FR E x W v) : FR E x W' v := fun i hi => by rw [h x i hx hi]; exact hf i hi
theorem OP.le {o o2 : Nat} {aOs aOn bOs bOn : Nat → Int32} (h : OP o2 aOs aOn bOs bOn) (ho : o ≤ o2) : OP o aOs aOn bOs bOn := fun i hi => h i (by omega)
theorem lp_l73 {E r : Nat} {RS5 : Int32 → Int32 → (Nat → Int32) → (Nat → Int32) → (Nat → Int32) → (Nat → Int32) → Int32 → (Nat → Int32) → (Nat → Int32) → Int32 → Int32 → (Nat → Int64) → (Nat → Int64) → (Nat → Int32) → Int32 → Int32 → Int32 → Int32 → Option C5} {yp : Int32} {bPo bTb bTp : Nat → Int32} {yln : Int32} (hE : E ≤ 12) (hr : r < 40) (v2 : Int32) (bOs bOn : Nat → Int32) (yop : Int32) (bSo bNu : Nat → Int32) (ytr yiw : Int32) (wMa0 wPr : Nat → Int64) (ypl yfa : Int32) : ∀ (fu k : Nat) (wMa : Nat → Int64), k ≤ E → E - k < fu → (∀ h, h < k → wMa (12 * r + h) = if nI h = v2 then 1 else 0) → FO E r wMa0 wMa →
    ∃ wMa', f_X5_part_L73 RS5 yp (nI E) bPo bTb bTp yln (nI r) fu bOs bOn yop bSo bNu ytr yiw wMa wPr ypl yfa v2 (nI k) = some (bOs, bOn, yop, bSo, bNu, ytr, yiw, wMa', wPr, ypl, yfa) ∧ FR E r wMa' (fun h => if nI h = v2 then 1 else 0) ∧ FO E r wMa0 wMa' := by
  intro fu
  induction fu with
  | zero => intro k wMa g1 g2; exact absurd g2 (Nat.not_lt_zero _)
  | succ fu ih =>
    intro k wMa g1 g2 hA hB
    rw [f_X5_part_L73]
    rcases Nat.lt_or_ge k E with q | q
    · have a1 : inb (nI (12 * r + k)) 480 = true := inb_t (by omega) (by omega)
      have b0 : f_X5_bit 0 = some 0 := rfl
      have b1 : f_X5_bit 1 = some 1 := rfl
      rw [if_neg (q_nle (by omega) (by omega) q), pu_i12, b0, b1, Option.bind_some, Option.bind_some, if_pos a1, if_pos a1, nI_clamp (by omega), q_s]
      have key : ∀ x : Int64, x = (if nI k = v2 then 1 else 0) → ∀ h, h < k + 1 → vp_updL wMa (12 * r + k) x (12 * r + h) = if nI h = v2 then 1 else 0 := by
        intro x hx h hh
        by_cases e : h = k
        · rw [e, vL_s, hx]
        · rw [vL_n (by omega)]
          exact hA h (by omega)
      by_cases c : nI k = v2
      · rw [if_pos c]
        exact ih (k + 1) _ (by omega) (by omega) (key _ (by rw [if_pos c]; rfl)) (hB.put q _)
      · rw [if_neg c]
        exact ih (k + 1) _ (by omega) (by omega) (key _ (by rw [if_neg c]; rfl)) (hB.put q _)
    · rw [if_pos (q_le (by omega) (by omega) q)]
      exact ⟨wMa, rfl, fun h hh => hA h (by omega), hB⟩

