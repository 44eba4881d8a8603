/-! THE POLYNOMIAL, on: what was decided, said of both -/
theorem dig_md {y m n : Nat} (h : m < n) : y % 256 ^ n / 256 ^ m % 256 = y / 256 ^ m % 256 := by
  have e : 256 ^ n = 256 ^ m * 256 ^ (n - m) := by rw [← Nat.pow_add, show m + (n - m) = n by omega]
  rw [e, Nat.mod_mul_right_div_self]
  refine Nat.mod_mod_of_dvd _ ?_
  have e2 : 256 ^ (n - m) = 256 ^ (n - m - 1) * 256 := by rw [← Nat.pow_succ, show (n - m - 1).succ = n - m by omega]
  rw [e2]
  exact Nat.dvd_mul_left _ _
theorem sumK_le {key : Nat → Nat} {ok : Nat → Bool} {m : Nat} : ∀ n, (∀ x, 1 ≤ x → x ≤ n → key x ≤ m) → sumK key ok n ≤ n * 256 ^ m
  | 0, _ => Nat.zero_le _
  | n + 1, h => by
    have h1 := sumK_le (ok := ok) n (fun x a b => h x a (Nat.le_succ_of_le b))
    have h2 : 256 ^ key (n + 1) ≤ 256 ^ m := Nat.pow_le_pow_right (by decide) (h (n + 1) (by omega) (Nat.le_refl _))
    show sumK key ok n + (if ok (n + 1) then 256 ^ key (n + 1) else 0) ≤ (n + 1) * 256 ^ m
    rw [Nat.add_mul, Nat.one_mul]
    split
    · exact Nat.add_le_add h1 h2
    · exact Nat.add_le_add h1 (Nat.zero_le _)
theorem keyS_lt {P E T z : Nat} (hP : P ≤ 61) (hE1 : 1 ≤ E) (hE : E ≤ 12) : keyS P E T z < 256 ^ 144 := by
  have h := sumK_le (key := fun x => 12 * (dT T x % E) + dT T ((z + P - x) % P) % E) (ok := fun x => !(x == z)) (m := 143) (P - 1) (fun x _ _ => by
    have a := Nat.mod_lt (dT T x) hE1
    have b := Nat.mod_lt (dT T ((z + P - x) % P)) hE1
    show 12 * (dT T x % E) + dT T ((z + P - x) % P) % E ≤ 143
    omega)
  have hc : 0 < 256 ^ 143 := Nat.pow_pos (by decide)
  have e : 256 ^ 144 = 256 ^ 143 * 256 := Nat.pow_succ 256 143
  have h3 : (P - 1) * 256 ^ 143 ≤ 255 * 256 ^ 143 := Nat.mul_le_mul_right _ (by omega)
  have h4 : keyS P E T z ≤ (P - 1) * 256 ^ 143 := h
  rw [e]
  generalize 256 ^ 143 = c at *
  omega
theorem KT_met {P E g i j h : Nat} (hV : Vd P E g) (hi : i < E) (hj : j < E) (hh : h < E) : KTf P E g (tabN P g) / 256 ^ (144 * h + (12 * i + j)) % 256 = met P E g (g ^ h % P) i j := by
  have hb := hV.bd
  have h1 : KTf P E g (tabN P g) / (256 ^ 144) ^ h % 256 ^ 144 = forceN (g ^ h % P) (fun z => keyS P E (tabN P g) z) := pkS_dig (b := 256 ^ 144) (f := fun h => forceN (g ^ h % P) (fun z => keyS P E (tabN P g) z)) (Nat.pow_pos (by decide)) (fun h _ => by
    show forceN (g ^ h % P) (fun z => keyS P E (tabN P g) z) < 256 ^ 144
    rw [forceN_eq]
    exact keyS_lt hb.2.1 hb.2.2.1 hb.2.2.2.1) hh
  rw [forceN_eq] at h1
  rw [met_key hb.2.1 hb.2.2.1 hb.2.2.2.1 (show j < 12 by omega), ← h1, dig_md (by omega), Nat.pow_add 256 (144 * h) (12 * i + j), ← Nat.div_div_eq_div_mul, Nat.pow_mul 256 144 h]
theorem sub_l {a b : Nat} (ha : a < 2 ^ 30) (hb : b < 2 ^ 30) : (nI a - nI b).toInt64 = lN a + -lN b := by
  refine Int64.toInt_inj.mp ?_
  rw [Int32.toInt_toInt64, pk_sub_toInt ha hb, ← Int64.sub_eq_add_neg, Int64.toInt_sub, lN_toInt (by omega), lN_toInt (by omega)]
  exact (Int.bmod_eq_of_le (by omega) (by omega)).symm
theorem mP_tim {P E g i j h : Nat} (hV : Vd P E g) (hi : i < E) (hj : j < E) (hh : h < E) : lN (mP P E (KTf P E g (tabN P g)) i j h) = (tim P E g i j h).toInt64 := by
  have hb := hV.bd
  have hm : met P E g (g ^ h % P) i j ≤ 60 := Nat.le_trans (cnt1_le _ _) (by omega)
  have hf : (P - 1) / E ≤ 60 := Nat.le_trans (Nat.div_le_self _ _) (by omega)
  unfold mP tim
  rw [KT_met hV hi hj hh, ← lN_add]
  by_cases ho : opp P E i = j
  · have hc : cond (Nat.beq (opp P E i) j) (18446744073709551616 - (P - 1) / E) 0 = 18446744073709551616 - (P - 1) / E := by
      rw [ho, Nat.beq_refl]; rfl
    rw [if_pos ho, hc, sub_l (by omega) (by omega), ← lN_sub (by omega), lN_W, Int64.zero_sub]
  · have hc : cond (Nat.beq (opp P E i) j) (18446744073709551616 - (P - 1) / E) 0 = 0 := by
      rw [show Nat.beq (opp P E i) j = false from Bool.eq_false_iff.mpr (fun w => ho (Nat.eq_of_beq_eq_true w))]; rfl
    rw [if_neg ho, hc, Int32.sub_zero, nI_l (by omega)]
    exact Int64.add_zero _
theorem w_pos : 0 < 18446744073709551616 := by decide
theorem dg_pk {f : Nat → Nat} {n i : Nat} (hf : ∀ i, i < n → f i < 18446744073709551616) (h : i < n) : dg (pkS 18446744073709551616 f n) i = f i := pkS_dig w_pos hf h
theorem dg_hi {f : Nat → Nat} {n i : Nat} (hf : ∀ i, i < n → f i < 18446744073709551616) (h : n ≤ i) : dg (pkS 18446744073709551616 f n) i = 0 := pkS_hi w_pos hf h
theorem mN_tim {P E g i j h : Nat} (hV : Vd P E g) (hi : i < E) (hj : j < E) (hh : h < E) : lN (mN P E (KTf P E g (tabN P g)) i j h) = -(tim P E g i j h).toInt64 ∧ mN P E (KTf P E g (tabN P g)) i j h ≤ 36893488147419103232 := by
  have hb := hV.bd
  have hm : met P E g (g ^ h % P) i j ≤ 60 := Nat.le_trans (cnt1_le _ _) (by omega)
  have hf : (P - 1) / E ≤ 60 := Nat.le_trans (Nat.div_le_self _ _) (by omega)
  unfold mN mO tim
  rw [KT_met hV hi hj hh, ← lN_add, ← lN_sub (by omega), lN_W, Int64.zero_sub]
  by_cases ho : opp P E i = j
  · have hc : cond (Nat.beq (opp P E i) j) ((P - 1) / E) 0 = (P - 1) / E := by
      rw [ho, Nat.beq_refl]; rfl
    rw [if_pos ho, hc, sub_l (by omega) (by omega), Int64.neg_add, Int64.sub_eq_add_neg, Int64.neg_neg]
    exact ⟨rfl, by omega⟩
  · have hc : cond (Nat.beq (opp P E i) j) ((P - 1) / E) 0 = 0 := by
      rw [show Nat.beq (opp P E i) j = false from Bool.eq_false_iff.mpr (fun w => ho (Nat.eq_of_beq_eq_true w))]; rfl
    rw [if_neg ho, hc, Int32.sub_zero, nI_l (by omega)]
    exact ⟨Int64.add_zero _, by omega⟩
theorem tQ_hi {P E K : Nat} : ∀ {n k h : Nat}, n < k → tQ P E K n k h = 0
  | 0, k, h, hk => if_neg (by omega)
  | n + 1, k, h, hk => by
    show (if k = 0 then 0 else tQ P E K n (k - 1) h) + smN (fun j => tQ P E K n k j * mN P E K n j h) E = 0
    rw [if_neg (by omega), tQ_hi (n := n) (k := k - 1) (by omega)]
    have e : ∀ m, smN (fun j => tQ P E K n k j * mN P E K n j h) m = 0 := by
      intro m
      induction m with
      | zero => rfl
      | succ m ih =>
        show smN (fun j => tQ P E K n k j * mN P E K n j h) m + tQ P E K n k m * mN P E K n m h = 0
        rw [ih, tQ_hi (n := n) (k := k) (by omega), Nat.zero_mul]
    rw [e E]
theorem tQ_s (P E K n k h : Nat) : lN (tQ P E K (n + 1) k h) = (if k = 0 then 0 else lN (tQ P E K n (k - 1) h)) + dotL (fun j => lN (tQ P E K n k j) * lN (mN P E K n j h)) E := by
  show lN ((if k = 0 then 0 else tQ P E K n (k - 1) h) + smN (fun j => tQ P E K n k j * mN P E K n j h) E) = _
  rw [← lN_add, lN_smN]
  congr 1
  · by_cases hk0 : k = 0
    · rw [if_pos hk0, if_pos hk0]; rfl
    · rw [if_neg hk0, if_neg hk0]
  · exact dotL_cong (fun j _ => (lN_mul _ _).symm)
theorem smN_le {f : Nat → Nat} {c : Nat} : ∀ {n : Nat}, (∀ i, i < n → f i ≤ c) → smN f n ≤ n * c
  | 0, _ => Nat.zero_le _
  | n + 1, h => by
    have h1 := smN_le (n := n) (fun i hi => h i (Nat.lt_succ_of_lt hi))
    have h2 := h n (Nat.lt_succ_self n)
    show smN f n + f n ≤ (n + 1) * c
    rw [Nat.add_mul, Nat.one_mul]
    exact Nat.add_le_add h1 h2
theorem smN_cong {f g : Nat → Nat} : ∀ {n : Nat}, (∀ i, i < n → f i = g i) → smN f n = smN g n
  | 0, _ => rfl
  | n + 1, h => by
    show smN f n + f n = smN g n + g n
    rw [smN_cong (fun i hi => h i (Nat.lt_succ_of_lt hi)), h n (Nat.lt_succ_self n)]
theorem smN_add (f g : Nat → Nat) : ∀ n, smN f n + smN g n = smN (fun i => f i + g i) n
  | 0 => rfl
  | n + 1 => by
    show (smN f n + f n) + (smN g n + g n) = smN (fun i => f i + g i) n + (f n + g n)
    rw [← smN_add f g n]
    omega
theorem smN_mul (f : Nat → Nat) (c : Nat) : ∀ n, smN f n * c = smN (fun i => f i * c) n
  | 0 => Nat.zero_mul c
  | n + 1 => by
    show (smN f n + f n) * c = smN (fun i => f i * c) n + f n * c
    rw [Nat.add_mul, smN_mul f c n]
theorem smN_0 (c : Nat → Nat) : ∀ n, smN (fun j => 0 * c j) n = 0
  | 0 => rfl
  | n + 1 => by
    show smN (fun j => 0 * c j) n + 0 * c n = 0
    rw [smN_0 c n, Nat.zero_mul]
theorem pkS_sm (b : Nat) (f : Nat → Nat → Nat) (c : Nat → Nat) (E : Nat) : ∀ n, pkS b (fun k => smN (fun j => f k j * c j) E) n = smN (fun j => pkS b (fun k => f k j) n * c j) E
  | 0 => (smN_0 c E).symm
  | n + 1 => by
    show pkS b (fun k => smN (fun j => f k j * c j) E) n + smN (fun j => f n j * c j) E * b ^ n = smN (fun j => (pkS b (fun k => f k j) n + f n j * b ^ n) * c j) E
    rw [pkS_sm b f c E n, smN_mul, smN_add]
    refine smN_cong (fun j _ => ?_)
    rw [Nat.add_mul, Nat.mul_right_comm]
theorem pkS_ax (b x : Nat) (f g : Nat → Nat) : ∀ n, x * pkS b f n + pkS b g n = pkS b (fun h => x * f h + g h) n
  | 0 => rfl
  | n + 1 => by
    show x * (pkS b f n + f n * b ^ n) + (pkS b g n + g n * b ^ n) = pkS b (fun h => x * f h + g h) n + (x * f n + g n) * b ^ n
    rw [← pkS_ax b x f g n, Nat.mul_add, Nat.add_mul, Nat.mul_assoc x (f n)]
    omega
theorem pkS_sh (b : Nat) (f g : Nat → Nat) : ∀ n, pkS b (fun k => (if k = 0 then 0 else f (k - 1)) + g k) (n + 1) = b * pkS b f n + pkS b g (n + 1)
  | 0 => by
    show 0 + (0 + g 0) * b ^ 0 = b * 0 + (0 + g 0 * b ^ 0)
    rw [Nat.pow_zero, Nat.mul_one, Nat.mul_one, Nat.mul_zero]
  | n + 1 => by
    have ih := pkS_sh b f g n
    have e1 : pkS b (fun k => (if k = 0 then 0 else f (k - 1)) + g k) (n + 1 + 1) = pkS b (fun k => (if k = 0 then 0 else f (k - 1)) + g k) (n + 1) + (f n + g (n + 1)) * b ^ (n + 1) := rfl
    have e2 : pkS b g (n + 1 + 1) = pkS b g (n + 1) + g (n + 1) * b ^ (n + 1) := rfl
    have e3 : pkS b f (n + 1) = pkS b f n + f n * b ^ n := rfl
    have e4 : b * (f n * b ^ n) = f n * b ^ (n + 1) := by
      rw [Nat.mul_left_comm, Nat.mul_comm b, ← Nat.pow_succ]
    rw [e1, ih, e2, e3, Nat.mul_add, e4, Nat.add_mul]
    omega
theorem pkS_cut (b : Nat) {f : Nat → Nat} {m : Nat} : ∀ {n : Nat}, (∀ k, m ≤ k → f k = 0) → m ≤ n → pkS b f n = pkS b f m
  | 0, _, h2 => by rw [show m = 0 by omega]
  | n + 1, h1, h2 => by
    by_cases e : m = n + 1
    · rw [e]
    · show pkS b f n + f n * b ^ n = _
      rw [h1 n (by omega), Nat.zero_mul, Nat.add_zero]
      exact pkS_cut b h1 (by omega)
theorem pkS_cong (b : Nat) {f g : Nat → Nat} : ∀ {n : Nat}, (∀ k, k < n → f k = g k) → pkS b f n = pkS b g n
  | 0, _ => rfl
  | n + 1, h => by
    show pkS b f n + f n * b ^ n = pkS b g n + g n * b ^ n
    rw [pkS_cong b (fun i hi => h i (Nat.lt_succ_of_lt hi)), h n (Nat.lt_succ_self n)]
theorem pkS_1 (b : Nat) (f : Nat → Nat) : pkS b f 1 = f 0 := by
  show 0 + f 0 * b ^ 0 = f 0
  rw [Nat.pow_zero, Nat.mul_one, Nat.zero_add]
theorem bX_pos : 0 < bX := Nat.pow_pos (by decide)
theorem bY_pos : 0 < bY := Nat.pow_pos bX_pos
def CQ (P E K n h : Nat) : Nat := pkS bX (fun k => tQ P E K n k h) 14
theorem tQ_le {P E g : Nat} (hV : Vd P E g) : ∀ {n k h : Nat}, n ≤ E → h < E → tQ P E (KTf P E g (tabN P g)) n k h ≤ 2 ^ (64 + 70 * n)
  | 0, k, h, _, _ => by
    show (if k = 0 then 18446744073709551615 else 0) ≤ 2 ^ (64 + 70 * 0)
    have e : 2 ^ (64 + 70 * 0) = 18446744073709551616 := by decide
    rw [e]
    split <;> decide
  | n + 1, k, h, hn, hh => by
    have hb := hV.bd
    have e : 2 ^ (64 + 70 * (n + 1)) = 2 ^ (64 + 70 * n) * 1180591620717411303424 := by
      rw [show 64 + 70 * (n + 1) = (64 + 70 * n) + 70 by omega, Nat.pow_add]
    have h1 : (if k = 0 then 0 else tQ P E (KTf P E g (tabN P g)) n (k - 1) h) ≤ 2 ^ (64 + 70 * n) := by
      split
      · exact Nat.zero_le _
      · exact tQ_le hV (by omega) hh
    have h2 : smN (fun j => tQ P E (KTf P E g (tabN P g)) n k j * mN P E (KTf P E g (tabN P g)) n j h) E ≤ E * (2 ^ (64 + 70 * n) * 36893488147419103232) := smN_le (fun j hj => Nat.mul_le_mul (tQ_le hV (by omega) hj) (mN_tim hV (by omega) hj hh).2)
    have h3 : E * (2 ^ (64 + 70 * n) * 36893488147419103232) ≤ 12 * (2 ^ (64 + 70 * n) * 36893488147419103232) := Nat.mul_le_mul_right _ hb.2.2.2.1
    rw [e]
    show (if k = 0 then 0 else tQ P E (KTf P E g (tabN P g)) n (k - 1) h) + smN (fun j => tQ P E (KTf P E g (tabN P g)) n k j * mN P E (KTf P E g (tabN P g)) n j h) E ≤ _
    generalize 2 ^ (64 + 70 * n) = A at *
    omega
theorem tQ_lt {P E g n k h : Nat} (hV : Vd P E g) (hn : n ≤ E) (hh : h < E) : tQ P E (KTf P E g (tabN P g)) n k h < bX := by
  have hb := hV.bd
  refine Nat.lt_of_le_of_lt (tQ_le hV hn hh) ?_
  unfold bX
  exact Nat.pow_lt_pow_right (by decide) (by omega)
theorem CQ_lt {P E g n h : Nat} (hV : Vd P E g) (hn : n ≤ E) (hh : h < E) : CQ P E (KTf P E g (tabN P g)) n h < bY := pkS_lt bX_pos (fun k _ => tQ_lt hV hn hh)
theorem CQ_s {P E K n h : Nat} (hn : n ≤ 12) : CQ P E K (n + 1) h = bX * CQ P E K n h + smN (fun j => CQ P E K n j * mN P E K n j h) E := by
  have e1 : CQ P E K (n + 1) h = pkS bX (fun k => (if k = 0 then 0 else tQ P E K n (k - 1) h) + smN (fun j => tQ P E K n k j * mN P E K n j h) E) (13 + 1) := rfl
  rw [e1, pkS_sh bX (fun k => tQ P E K n k h) (fun k => smN (fun j => tQ P E K n k j * mN P E K n j h) E) 13, pkS_sm]
  have e2 : pkS bX (fun k => tQ P E K n k h) 13 = CQ P E K n h := (pkS_cut bX (m := 13) (n := 14) (fun k hk => tQ_hi (by omega)) (by omega)).symm
  rw [e2]
  rfl
theorem itQ_ok {P E g : Nat} (hV : Vd P E g) : ∀ {n : Nat}, n ≤ E → itQ P E (KTf P E g (tabN P g)) n = pkS bY (fun h => CQ P E (KTf P E g (tabN P g)) n h) E
  | 0, _ => by
    show pkS bY (fun _ => 18446744073709551615) E = _
    refine pkS_cong bY (fun h hh => ?_)
    have e : CQ P E (KTf P E g (tabN P g)) 0 h = pkS bX (fun k => tQ P E (KTf P E g (tabN P g)) 0 k h) 1 := pkS_cut bX (m := 1) (n := 14) (fun k hk => tQ_hi (by omega)) (by omega)
    rw [e, pkS_1]
    exact (if_pos rfl).symm
  | n + 1, hn => by
    have hb := hV.bd
    have ih := itQ_ok hV (n := n) (by omega)
    show forceN (itQ P E (KTf P E g (tabN P g)) n) (fun S => forceN (opp P E n) (fun o => forceN ((P - 1) / E) (fun F => bX * S + smN (fun j => pkS bY (fun h => mO o F (KTf P E g (tabN P g)) n j h) E * (S / bY ^ j % bY)) E))) = _
    rw [forceN_eq, forceN_eq, forceN_eq, ih]
    have e1 : smN (fun j => pkS bY (fun h => mO (opp P E n) ((P - 1) / E) (KTf P E g (tabN P g)) n j h) E * (pkS bY (fun h => CQ P E (KTf P E g (tabN P g)) n h) E / bY ^ j % bY)) E = smN (fun j => pkS bY (fun h => mN P E (KTf P E g (tabN P g)) n j h) E * CQ P E (KTf P E g (tabN P g)) n j) E := smN_cong (fun j hj => by
      rw [pkS_dig bY_pos (fun h hh => CQ_lt hV (by omega) hh) hj]
      rfl)
    rw [e1, ← pkS_sm bY (fun h j => mN P E (KTf P E g (tabN P g)) n j h), pkS_ax]
    refine pkS_cong bY (fun h hh => ?_)
    show bX * CQ P E (KTf P E g (tabN P g)) n h + smN (fun j => mN P E (KTf P E g (tabN P g)) n j h * CQ P E (KTf P E g (tabN P g)) n j) E = CQ P E (KTf P E g (tabN P g)) (n + 1) h
    rw [CQ_s (by omega), smN_cong (f := fun j => mN P E (KTf P E g (tabN P g)) n j h * CQ P E (KTf P E g (tabN P g)) n j) (g := fun j => CQ P E (KTf P E g (tabN P g)) n j * mN P E (KTf P E g (tabN P g)) n j h) (fun j _ => Nat.mul_comm _ _)]
theorem cf_ok {P E g k : Nat} (hV : Vd P E g) (hk : k ≤ E) : lN (dg (cfQ E (itQ P E (KTf P E g (tabN P g)) E % bY)) k) = -lN (tQ P E (KTf P E g (tabN P g)) E k 0) := by
  have hb := hV.bd
  unfold cfQ
  rw [dg_pk (fun k _ => Nat.mod_lt _ w_pos) (show k < E + 1 by omega), lN_md, lN_ng]
  have e : itQ P E (KTf P E g (tabN P g)) E % bY = CQ P E (KTf P E g (tabN P g)) E 0 := by
    have h := pkS_dig (b := bY) (i := 0) (n := E) (f := fun h => CQ P E (KTf P E g (tabN P g)) E h) bY_pos (fun h hh => CQ_lt hV (Nat.le_refl _) hh) (by omega)
    rw [Nat.pow_zero, Nat.div_one] at h
    rw [itQ_ok hV (Nat.le_refl _)]
    exact h
  rw [e]
  unfold CQ
  rw [pkS_dig bX_pos (fun k _ => tQ_lt hV (Nat.le_refl _) (by omega)) (show k < 14 by omega)]
theorem VQ_ok {P E : Nat} (hV : Vd P E (g0 P)) : ∀ n i, i < E → (perP P E n).getD i 0 = lN (dg (VQ P E (KTf P E (g0 P) (tabN P (g0 P))) n) i)
  | 0, i, hi => by
    show ((List.range E).map (fun i => if i = 0 then (1 : Int64) else 0)).getD i 0 = lN (dg (pkS 18446744073709551616 (fun i => cond (Nat.beq i 0) 1 0) E) i)
    rw [q_getD_map hi, dg_pk (fun i _ => by show cond (Nat.beq i 0) 1 0 < _; generalize Nat.beq i 0 = t; cases t <;> decide) hi]
    cases i with
    | zero => rfl
    | succ i => rfl
  | n + 1, i, hi => by
    show (nxtP P E (perP P E n)).getD i 0 = lN (dg (forceN (VQ P E (KTf P E (g0 P) (tabN P (g0 P))) n) (fun V => pkS 18446744073709551616 (fun h => smN (fun i => dg V i * mP P E (KTf P E (g0 P) (tabN P (g0 P))) i 0 h) E % 18446744073709551616) E)) i)
    rw [forceN_eq, dg_pk (fun _ _ => Nat.mod_lt _ w_pos) hi]
    unfold nxtP
    rw [q_getD_map hi, lN_md, lN_smN]
    refine dotL_cong (fun j hj => ?_)
    rw [← lN_mul, mP_tim hV hj (by omega) hi, VQ_ok hV n j hj]
theorem psm_ok {P E k : Nat} (hV : Vd P E (g0 P)) (hk : k < E) : psm P E (k + 1) = lN (dg (PSQ P E (KTf P E (g0 P) (tabN P (g0 P)))) k) := by
  unfold PSQ
  rw [dg_pk (fun k _ => by
    show forceN _ _ < _
    rw [forceN_eq]
    exact Nat.mod_lt _ w_pos) hk, forceN_eq, lN_md, lN_ng, lN_smN]
  unfold psm
  rw [show k + 1 - 1 = k by omega]
  exact congrArg Neg.neg (dotL_cong (fun i hi => VQ_ok hV k i hi))
theorem lN_sm {c : Nat} (hc : c < 18446744073709551616) (hs : (c + 576460752303423488) % 18446744073709551616 < 1152921504606846976) : -576460752303423488 ≤ (lN c).toInt ∧ (lN c).toInt < 576460752303423488 := by
  have e : (lN c).toInt = (c : Int).bmod (2 ^ 64) := Int64.toInt_ofNat'
  rw [Int.bmod_def] at e
  rw [e]
  split <;> omega
theorem div_c {D : Int64} {c n : Nat} (hc : c < 18446744073709551616) (hs : (c + 576460752303423488) % 18446744073709551616 < 1152921504606846976) (hn : 1 ≤ n) (hn2 : n ≤ 12) (h : D + lN n * lN c = 0) : -D / (nI n).toInt64 = lN c := by
  obtain ⟨x1, x2⟩ := lN_sm hc hs
  have e : -D = lN n * lN c := by
    have w : -D + (D + lN n * lN c) = -D + 0 := by rw [h]
    rw [← Int64.add_assoc, Int64.add_left_neg, Int64.zero_add, Int64.add_zero] at w
    exact w.symm
  have hm : -9223372036854775808 ≤ (n : Int) * (lN c).toInt ∧ (n : Int) * (lN c).toInt < 9223372036854775808 := by
    have hn3 : n = 1 ∨ n = 2 ∨ n = 3 ∨ n = 4 ∨ n = 5 ∨ n = 6 ∨ n = 7 ∨ n = 8 ∨ n = 9 ∨ n = 10 ∨ n = 11 ∨ n = 12 := by omega
    rcases hn3 with rfl | rfl | rfl | rfl | rfl | rfl | rfl | rfl | rfl | rfl | rfl | rfl <;> omega
  have hm2 : (lN n * lN c).toInt = n * (lN c).toInt := by
    rw [Int64.toInt_mul, lN_toInt (by omega)]
    exact Int.bmod_eq_of_le (by omega) (by omega)
  rw [e, nI_l (by omega)]
  refine Int64.toInt_inj.mp ?_
  rw [Int64.toInt_div, hm2, lN_toInt (n := n) (by omega), Int.mul_tdiv_cancel_left _ (by omega)]
  exact Int.bmod_eq_of_le (by omega) (by omega)
theorem newt_of {P E PS S : Nat} (hE : E ≤ 12) (h1 : dg S E = 1) (h2 : ∀ j, j < E → (dg S j + 576460752303423488) % 18446744073709551616 < 1152921504606846976) (h3 : ∀ k, k < E → (smN (fun i => dg PS i * dg S (E - k + i)) (k + 1) + (k + 1) * dg S (E - (k + 1))) % 18446744073709551616 = 0) (hp : ∀ k, k < E → psm P E (k + 1) = lN (dg PS k)) : ∀ k, k ≤ E → ∀ i, i ≤ k → (newt P E k).getD i 0 = lN (dg S (E - k + i))
  | 0, _, i, hi => by
    obtain rfl : i = 0 := by omega
    rw [show E - 0 + 0 = E by omega, h1]
    rfl
  | k + 1, hk, 0, _ => by
    have ih := newt_of hE h1 h2 h3 hp k (by omega)
    show -(dotL (fun i => psm P E (i + 1) * (newt P E k).getD i 0) (k + 1)) / (nI (k + 1)).toInt64 = lN (dg S (E - (k + 1)))
    refine div_c (dg_lt _ _) (h2 _ (by omega)) (by omega) (by omega) ?_
    have e : dotL (fun i => psm P E (i + 1) * (newt P E k).getD i 0) (k + 1) = lN (smN (fun i => dg PS i * dg S (E - k + i)) (k + 1)) := by
      rw [lN_smN]
      refine dotL_cong (fun i hi => ?_)
      rw [hp i (by omega), ih i (by omega), lN_mul]
    rw [e, lN_mul, lN_add, ← lN_md, h3 k (by omega)]
    rfl
  | k + 1, hk, i + 1, hi => by
    have ih := newt_of hE h1 h2 h3 hp k (by omega) i (by omega)
    show (newt P E k).getD i 0 = _
    rw [ih, show E - (k + 1) + (i + 1) = E - k + i by omega]
theorem chk_all {P E : Nat} (hP : P ∈ prs) (hE1 : 1 ≤ E) (hE : E < 13) (hd : (P - 1) % E = 0) : chkE P E = true := by
  have h : P ∈ [3, 5, 7, 11, 13, 17, 19, 23] ∨ P ∈ [29, 31, 37, 41] ∨ P ∈ [43, 47, 53, 59, 61] := by
    have k : ∀ x ∈ prs, x ∈ [3, 5, 7, 11, 13, 17, 19, 23] ∨ x ∈ [29, 31, 37, 41] ∨ x ∈ [43, 47, 53, 59, 61] := by decide
    exact k P hP
  rcases h with h | h | h
  · exact chk_Qa P h E hE hE1 hd
  · exact chk_Qb P h E hE hE1 hd
  · exact chk_Qc P h E hE hE1 hd
theorem pol_ok {P E g k : Nat} (hV : Vd P E g) (hk : k ≤ E) : pol P E k = -lN (tQ P E (KTf P E g (tabN P g)) E k 0) := by
  have hb := hV.bd
  have hV0 : Vd P E (g0 P) := ⟨hV.1, hV.2.1, hV.2.2.1, hV.2.2.2.1, g0_ok hV.1⟩
  have h := chk_all hV.1 hb.2.2.1 (show E < 13 by omega) hV.2.2.2.1
  unfold chkE at h
  rw [forceN_eq, forceN_eq, forceN_eq, forceN_eq, allN_iff] at h
  have h2 := h g hb.2.2.2.2.2
  rw [hV.2.2.2.2, Bool.not_true, Bool.false_or, forceN_eq, forceN_eq, Bool.and_true] at h2
  unfold chkQ at h2
  rw [forceN_eq, forceN_eq, forceN_eq] at h2
  unfold okQ at h2
  rw [Bool.and_eq_true, Bool.and_eq_true, allN_iff, allN_iff] at h2
  obtain ⟨a1, a2, a3⟩ := h2
  have r := newt_of (P := P) hb.2.2.2.1 (Nat.eq_of_beq_eq_true a1) (fun j hj => Nat.le_of_ble_eq_true (a2 j hj)) (fun k hk => Nat.eq_of_beq_eq_true (a3 k hk)) (fun k hk => psm_ok hV0 hk) E (Nat.le_refl _) k hk
  unfold pol
  rw [r, show E - E + k = k by omega, cf_ok hV hk]

