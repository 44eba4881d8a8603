/-! THE POLYNOMIAL: what both reckon, decided once for all primes over numbers packed into one -/
def pkS (b : Nat) (f : Nat → Nat) : Nat → Nat
  | 0 => 0
  | n + 1 => pkS b f n + f n * b ^ n
theorem pkS_lt {b : Nat} (hb : 0 < b) {f : Nat → Nat} : ∀ {n : Nat}, (∀ i, i < n → f i < b) → pkS b f n < b ^ n
  | 0, _ => by show 0 < b ^ 0; rw [Nat.pow_zero]; exact Nat.one_pos
  | n + 1, h => by
    have h1 := pkS_lt hb (n := n) (fun i hi => h i (Nat.lt_succ_of_lt hi))
    have h2 := h n (Nat.lt_succ_self n)
    have h3 : (f n + 1) * b ^ n ≤ b * b ^ n := Nat.mul_le_mul_right _ h2
    have e : b ^ (n + 1) = b * b ^ n := by rw [Nat.pow_succ, Nat.mul_comm]
    rw [Nat.add_mul, Nat.one_mul] at h3
    rw [e]
    show pkS b f n + f n * b ^ n < b * b ^ n
    exact Nat.lt_of_lt_of_le (by rw [Nat.add_comm]; exact Nat.add_lt_add_left h1 _) h3
theorem pkS_dig {b : Nat} (hb : 0 < b) {f : Nat → Nat} {i : Nat} : ∀ {n : Nat}, (∀ i, i < n → f i < b) → i < n → pkS b f n / b ^ i % b = f i
  | 0, _, h => absurd h (Nat.not_lt_zero _)
  | n + 1, hf, h => by
    have hl := pkS_lt hb (n := n) (fun i hi => hf i (Nat.lt_succ_of_lt hi))
    show (pkS b f n + f n * b ^ n) / b ^ i % b = f i
    by_cases e : i = n
    · rw [e, Nat.add_mul_div_right _ _ (Nat.pow_pos hb), Nat.div_eq_of_lt hl, Nat.zero_add, Nat.mod_eq_of_lt (hf n (Nat.lt_succ_self n))]
    · have hi : i < n := by omega
      have e1 : f n * b ^ n = b ^ i * (b * (f n * b ^ (n - i - 1))) := by
        have e2 : b ^ n = b ^ i * (b * b ^ (n - i - 1)) := by
          rw [Nat.mul_comm b, ← Nat.pow_succ, ← Nat.pow_add, show i + (n - i - 1 + 1) = n by omega]
        rw [e2, Nat.mul_left_comm, Nat.mul_left_comm (f n) b]
      rw [e1, Nat.add_mul_div_left _ _ (Nat.pow_pos hb), Nat.add_mul_mod_self_left]
      exact pkS_dig hb (fun i hi => hf i (Nat.lt_succ_of_lt hi)) hi
theorem pkS_hi {b : Nat} (hb : 0 < b) {f : Nat → Nat} {i n : Nat} (hf : ∀ i, i < n → f i < b) (h : n ≤ i) : pkS b f n / b ^ i % b = 0 := by
  rw [Nat.div_eq_of_lt (Nat.lt_of_lt_of_le (pkS_lt hb hf) (Nat.pow_le_pow_right hb h)), Nat.zero_mod]
/-- the i-th of S, 2 to the 64th being its base -/
def dg (S i : Nat) : Nat := S / 18446744073709551616 ^ i % 18446744073709551616
theorem dg_lt (S i : Nat) : dg S i < 18446744073709551616 := Nat.mod_lt _ (by decide)
def smN (f : Nat → Nat) : Nat → Nat
  | 0 => 0
  | n + 1 => smN f n + f n
theorem lN_smN (f : Nat → Nat) : ∀ n, lN (smN f n) = dotL (fun i => lN (f i)) n
  | 0 => rfl
  | n + 1 => by
    show lN (smN f n + f n) = dotL (fun i => lN (f i)) n + lN (f n)
    rw [← lN_add, lN_smN f n]
theorem lN_W : lN 18446744073709551616 = 0 := by decide +kernel
theorem lN_md (n : Nat) : lN (n % 18446744073709551616) = lN n := by
  have h : lN n = lN (n % 18446744073709551616 + 18446744073709551616 * (n / 18446744073709551616)) := by rw [Nat.mod_add_div]
  rw [h, ← lN_add, ← lN_mul, lN_W, Int64.zero_mul, Int64.add_zero]
theorem lN_m1 : lN 18446744073709551615 = -1 := by decide +kernel
theorem lN_ng (n : Nat) : lN (18446744073709551615 * n) = -lN n := by rw [← lN_mul, lN_m1, ← Int64.neg_eq_neg_one_mul]
/-- the counts of MEETS by E numbers z, packed -/
def KTf (P E g T : Nat) : Nat := pkS (256 ^ 144) (fun h => forceN (g ^ h % P) (fun z => keyS P E T z)) E
/-- TIMES, no less than 0; and less than 0, turned -/
def mP (P E K i j h : Nat) : Nat := K / 256 ^ (144 * h + (12 * i + j)) % 256 + cond (Nat.beq (opp P E i) j) (18446744073709551616 - (P - 1) / E) 0
def mO (o F K i j h : Nat) : Nat := (18446744073709551616 - K / 256 ^ (144 * h + (12 * i + j)) % 256) + cond (Nat.beq o j) F 0
def mN (P E K i j h : Nat) : Nat := mO (opp P E i) ((P - 1) / E) K i j h
/-- the polynomial's terms behind n factors: at x to the k, at the h-th period -/
def tQ (P E K : Nat) : Nat → Nat → Nat → Nat
  | 0, k, _ => if k = 0 then 18446744073709551615 else 0
  | n + 1, k, h => (if k = 0 then 0 else tQ P E K n (k - 1) h) + smN (fun j => tQ P E K n k j * mN P E K n j h) E
def bX : Nat := 2 ^ 1024
def bY : Nat := bX ^ 14
/-- all of them in one number -/
def itQ (P E K : Nat) : Nat → Nat
  | 0 => pkS bY (fun _ => 18446744073709551615) E
  | n + 1 => forceN (itQ P E K n) (fun S => forceN (opp P E n) (fun o => forceN ((P - 1) / E) (fun F => bX * S + smN (fun j => pkS bY (fun h => mO o F K n j h) E * (S / bY ^ j % bY)) E)))
/-- the powers of the first period -/
def VQ (P E K : Nat) : Nat → Nat
  | 0 => pkS 18446744073709551616 (fun i => cond (Nat.beq i 0) 1 0) E
  | n + 1 => forceN (VQ P E K n) (fun V => pkS 18446744073709551616 (fun h => smN (fun i => dg V i * mP P E K i 0 h) E % 18446744073709551616) E)
def PSQ (P E K : Nat) : Nat := pkS 18446744073709551616 (fun k => forceN (VQ P E K k) (fun V => 18446744073709551615 * smN (fun i => dg V i) E % 18446744073709551616)) E
/-- the coefficients, in one number -/
def cfQ (E S : Nat) : Nat := pkS 18446744073709551616 (fun k => 18446744073709551615 * (S / bX ^ k % bX) % 18446744073709551616) (E + 1)
def okQ (E PS c : Nat) : Bool := Nat.beq (dg c E) 1 && (allN (fun j => Nat.blt ((dg c j + 576460752303423488) % 18446744073709551616) 1152921504606846976) E && allN (fun k => Nat.beq ((smN (fun i => dg PS i * dg c (E - k + i)) (k + 1) + (k + 1) * dg c (E - (k + 1))) % 18446744073709551616) 0) E)
def chkQ (P E PS K : Nat) : Bool := forceN (itQ P E K E) (fun S => forceN (S % bY) (fun C => forceN (cfQ E C) (fun c => okQ E PS c)))
def chkE (P E : Nat) : Bool := forceN (g0 P) (fun g0 => forceN (tabN P g0) (fun T0 => forceN (KTf P E g0 T0) (fun K0 => forceN (PSQ P E K0) (fun PS => allN (fun g => !(isG P g) || forceN (tabN P g) (fun T => forceN (KTf P E g T) (fun K => chkQ P E PS K && true))) P))))
set_option maxHeartbeats 40000000 in
theorem chk_Qa : ∀ P ∈ [3, 5, 7, 11, 13, 17, 19, 23], ∀ E, E < 13 → 1 ≤ E → (P - 1) % E = 0 → chkE P E = true := by decide +kernel
set_option maxHeartbeats 400000000 in
theorem chk_Qb : ∀ P ∈ [29, 31, 37, 41], ∀ E, E < 13 → 1 ≤ E → (P - 1) % E = 0 → chkE P E = true := by decide +kernel
set_option maxHeartbeats 400000000 in
theorem chk_Qc : ∀ P ∈ [43, 47, 53, 59, 61], ∀ E, E < 13 → 1 ≤ E → (P - 1) % E = 0 → chkE P E = true := by decide +kernel

