/-! THE PRIME PART: powers, classes, what the program decides of the primes -/
def allN (f : Nat → Bool) : Nat → Bool
  | 0 => true
  | n + 1 => allN f n && f n
theorem allN_iff {f : Nat → Bool} : ∀ {n : Nat}, allN f n = true ↔ ∀ k, k < n → f k = true
  | 0 => ⟨fun _ k h => absurd h (Nat.not_lt_zero k), fun _ => rfl⟩
  | n + 1 => by
    show (allN f n && f n) = true ↔ _
    rw [Bool.and_eq_true, allN_iff]
    refine ⟨fun h k hk => ?_, fun h => ⟨fun k hk => h k (Nat.lt_succ_of_lt hk), h n (Nat.lt_succ_self n)⟩⟩
    rcases Nat.lt_or_ge k n with q | q
    · exact h.1 k q
    · rw [show k = n by omega]
      exact h.2
/-- a number first reckoned, then used -/
def forceN {α : Type} (n : Nat) (f : Nat → α) : α := match n with
  | 0 => f 0
  | k + 1 => f (k + 1)
theorem forceN_eq {α : Type} (n : Nat) (f : Nat → α) : forceN n f = f n := by cases n <;> rfl
def chkP (P g T : Nat) : Bool := allN (fun k => Nat.beq (dT T (g ^ k % P)) k && Nat.blt 0 (g ^ k % P)) (P - 1) && allN (fun x => Nat.beq (g ^ (dT T (x + 1)) % P) (x + 1) && (Nat.blt (dT T (x + 1)) (P - 1) && Nat.beq (dT T (P - (x + 1))) ((dT T (x + 1) + (P - 1) / 2) % (P - 1)))) (P - 1)
theorem chk_P : ∀ P ∈ prs, ∀ g, g < P → isG P g = true → forceN (tabN P g) (chkP P g) = true := by decide +kernel
theorem dl_all {P g : Nat} (hP : P ∈ prs) (hg : isG P g = true) : chkP P g (tabN P g) = true := by
  have h1 : g < P := by
    unfold isG at hg
    simp only [Bool.and_eq_true, decide_eq_true_eq] at hg
    exact hg.1.2
  have h := chk_P P hP g h1 hg
  rw [forceN_eq] at h
  exact h
theorem dl_pow {P g k : Nat} (hP : P ∈ prs) (hg : isG P g = true) (hk : k < P - 1) : dl P g (g ^ k % P) = k := by
  have h := dl_all hP hg
  unfold chkP at h
  rw [Bool.and_eq_true, allN_iff] at h
  have h1 := h.1 k hk
  rw [Bool.and_eq_true] at h1
  exact Nat.eq_of_beq_eq_true h1.1
theorem pow_ne0 {P g k : Nat} (hP : P ∈ prs) (hg : isG P g = true) (hk : k < P - 1) : 1 ≤ g ^ k % P := by
  have h := dl_all hP hg
  unfold chkP at h
  rw [Bool.and_eq_true, allN_iff] at h
  have h1 := h.1 k hk
  rw [Bool.and_eq_true] at h1
  exact Nat.le_of_ble_eq_true h1.2
theorem dl_x {P g x : Nat} (hP : P ∈ prs) (hg : isG P g = true) (h1 : 1 ≤ x) (h2 : x < P) : g ^ dl P g x % P = x ∧ dl P g x < P - 1 ∧ dl P g (P - x) = (dl P g x + (P - 1) / 2) % (P - 1) := by
  have h := dl_all hP hg
  unfold chkP at h
  rw [Bool.and_eq_true, allN_iff, allN_iff] at h
  have h3 := h.2 (x - 1) (by omega)
  rw [show x - 1 + 1 = x by omega, Bool.and_eq_true, Bool.and_eq_true] at h3
  exact ⟨Nat.eq_of_beq_eq_true h3.1, Nat.le_of_ble_eq_true h3.2.1, Nat.eq_of_beq_eq_true h3.2.2⟩
theorem gen4 : ∀ P ∈ prs, ∀ x, x < P → f_X0_isGenerator (nI P) (nI x) = some (if isG P x then 1 else 0) := by decide +kernel
theorem gen5 : ∀ P ∈ prs, ∀ x, x < P → 1 ≤ x → f_X5_isGenerator (nI P) (nI x) = some (if isG P x then 1 else 0) := by decide +kernel
theorem gens5 : ∀ P ∈ prs, f_X5_generators (nI P) = some (nI (gens P).length) := by decide +kernel
theorem genth5 : ∀ P ∈ prs, ∀ i, i < (gens P).length → f_X5_generator (nI P) (nI i) = some (nI ((gens P).getD i 0)) := by decide +kernel
theorem prime4 : ∀ x, x < 62 → f_X4_isOddPrime (nI x) = some (if x ∈ prs then 1 else 0) := by decide +kernel
theorem prime5 : ∀ x, x < 62 → 3 ≤ x → f_X5_isPrime (nI x) = some (if x ∈ prs then 1 else 0) := by decide +kernel
theorem gens_bd : ∀ P ∈ prs, 1 ≤ (gens P).length ∧ (gens P).length ≤ 60 ∧ isG P (g0 P) = true := by decide +kernel
