/-! THE PRIME PART of the reference: powers, firstOf, the table -/
def sumK (key : Nat → Nat) (ok : Nat → Bool) : Nat → Nat
  | 0 => 0
  | n + 1 => sumK key ok n + (if ok (n + 1) then 256 ^ key (n + 1) else 0)
theorem dig_add {S k m : Nat} (h : S / 256 ^ k % 256 + 1 < 256) : (S + 256 ^ k) / 256 ^ m % 256 = if m = k then S / 256 ^ m % 256 + 1 else S / 256 ^ m % 256 := by
  have p0 : ∀ n, 0 < 256 ^ n := fun n => Nat.pow_pos (by decide)
  rcases Nat.lt_trichotomy m k with q | q | q
  · rw [if_neg (by omega)]
    obtain ⟨d, rfl⟩ := Nat.exists_eq_add_of_lt q
    rw [show 256 ^ (m + d + 1) = 256 ^ m * (256 * 256 ^ d) from by rw [Nat.pow_succ, Nat.pow_add, Nat.mul_assoc, Nat.mul_comm (256 ^ d)], Nat.add_mul_div_left _ _ (p0 m), Nat.add_mul_mod_self_left]
  · subst q
    rw [if_pos rfl, Nat.add_div_right _ (p0 m)]
    show (S / 256 ^ m + 1) % 256 = _
    omega
  · rw [if_neg (by omega)]
    obtain ⟨d, rfl⟩ := Nat.exists_eq_add_of_lt q
    have e : ∀ x, x / 256 ^ (k + d + 1) = x / 256 ^ k / 256 / 256 ^ d := by
      intro x
      rw [show 256 ^ (k + d + 1) = 256 ^ k * 256 * 256 ^ d from by rw [Nat.pow_succ, Nat.pow_add, Nat.mul_assoc, Nat.mul_assoc, Nat.mul_comm (256 ^ d)], Nat.div_div_eq_div_mul, Nat.div_div_eq_div_mul, Nat.mul_assoc]
    rw [e, e, Nat.add_div_right _ (p0 k)]
    have e2 : (S / 256 ^ k).succ / 256 = S / 256 ^ k / 256 := by
      show (S / 256 ^ k + 1) / 256 = _
      omega
    rw [e2]
theorem sumK_dig (key : Nat → Nat) (ok : Nat → Bool) (m : Nat) : ∀ n, n < 256 → sumK key ok n / 256 ^ m % 256 = cnt1 (fun x => ok x && key x == m) n := by
  have all : ∀ n, n < 256 → ∀ m, sumK key ok n / 256 ^ m % 256 = cnt1 (fun x => ok x && key x == m) n := by
    intro n
    induction n with
    | zero => intro _ m; show 0 / 256 ^ m % 256 = 0; rw [Nat.zero_div]
    | succ n ih =>
      intro h m
      have hi := ih (by omega)
      show (sumK key ok n + (if ok (n + 1) then 256 ^ key (n + 1) else 0)) / 256 ^ m % 256 = cnt1 (fun x => ok x && key x == m) n + (if (ok (n + 1) && key (n + 1) == m) = true then 1 else 0)
      by_cases hok : ok (n + 1) = true
      · rw [if_pos hok, dig_add (by rw [hi (key (n + 1))]; have := cnt1_le (fun x => ok x && key x == key (n + 1)) n; omega), hi m]
        by_cases he : m = key (n + 1)
        · rw [if_pos he, if_pos (by simp [hok, he])]
        · rw [if_neg he, if_neg (by simp [hok]; exact fun q => he q.symm)]
          rfl
      · rw [if_neg hok, if_neg (by simp [hok]), Nat.add_zero, hi m]
        rfl
  intro n h
  exact all n h m
theorem cnt1_cong {f g : Nat → Bool} : ∀ {n : Nat}, (∀ x, 1 ≤ x → x ≤ n → f x = g x) → cnt1 f n = cnt1 g n
  | 0, _ => rfl
  | n + 1, h => by rw [cnt1_s, cnt1_s, cnt1_cong (fun x a b => h x a (Nat.le_succ_of_le b)), h (n + 1) (by omega) (Nat.le_refl _)]
/-- the first from x on at which f holds, n of them looked at -/
def fstGo (f : Nat → Bool) : Nat → Nat → Nat
  | 0, x => x
  | n + 1, x => if f x then x else fstGo f n (x + 1)
theorem fstGo_ge (f : Nat → Bool) : ∀ n x, x ≤ fstGo f n x
  | 0, x => Nat.le_refl x
  | n + 1, x => by
    show x ≤ if f x then x else fstGo f n (x + 1)
    split
    · exact Nat.le_refl x
    · exact Nat.le_trans (Nat.le_succ x) (fstGo_ge f n (x + 1))
def fstC (P E g i : Nat) : Nat := fstGo (fun x => Nat.beq (cl P E g x) i) P 1
def keyS (P E T z : Nat) : Nat := sumK (fun x => 12 * (dT T x % E) + dT T ((z + P - x) % P) % E) (fun x => !(x == z)) (P - 1)
def chkF (P E g T : Nat) : Bool := allN (fun i => forceN (fstGo (fun x => Nat.beq (dT T x % E) i) P 1) (fun z => Nat.blt z P && (Nat.beq (dT T z % E) i && (Nat.beq (keyS P E T z) (keyS P E T (g ^ i % P)) && Nat.beq (cnt1 (fun x => Nat.beq (dT T x % E) i) (P - 1)) ((P - 1) / E))))) E
theorem chk_F : ∀ P ∈ prs, ∀ E, E < 13 → 1 ≤ E → (P - 1) % E = 0 → ∀ g, g < P → isG P g = true → forceN (tabN P g) (chkF P E g) = true := by decide +kernel
