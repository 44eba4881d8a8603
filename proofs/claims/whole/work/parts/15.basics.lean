/-! PLAIN FACTS: conditions of the mirrored functions over small numbers -/
theorem pu_cmp_lt (x y : Int64) : lg_cmp x y < 0 ↔ x < y := by
  unfold lg_cmp
  by_cases h1 : x > y
  · rw [if_pos h1]
    refine ⟨fun h => absurd h (by decide), fun h => ?_⟩
    have a : y.toInt < x.toInt := Int64.lt_iff_toInt_lt.mp h1
    have b : x.toInt < y.toInt := Int64.lt_iff_toInt_lt.mp h
    omega
  · rw [if_neg h1]
    by_cases h2 : x = y
    · rw [if_pos h2]
      refine ⟨fun h => absurd h (by decide), fun h => ?_⟩
      have b : x.toInt < y.toInt := Int64.lt_iff_toInt_lt.mp h
      rw [h2] at b
      omega
    · rw [if_neg h2]
      refine ⟨fun _ => ?_, fun _ => by decide⟩
      rw [Int64.lt_iff_toInt_lt]
      have a : ¬ y.toInt < x.toInt := fun q => h1 (Int64.lt_iff_toInt_lt.mpr q)
      have b : x.toInt ≠ y.toInt := fun q => h2 (Int64.toInt_inj.mp q)
      omega
theorem pu_cmp_gt (x y : Int64) : 0 < lg_cmp x y ↔ y < x := by
  unfold lg_cmp
  by_cases h1 : x > y
  · rw [if_pos h1]
    exact ⟨fun _ => h1, fun _ => by decide⟩
  · rw [if_neg h1]
    by_cases h2 : x = y
    · rw [if_pos h2]
      exact ⟨fun h => absurd h (by decide), fun h => absurd h h1⟩
    · rw [if_neg h2]
      exact ⟨fun h => absurd h (by decide), fun h => absurd h h1⟩
theorem pu_cmp_eq (x y : Int64) : lg_cmp x y = 0 ↔ x = y := by
  unfold lg_cmp
  by_cases h1 : x > y
  · rw [if_pos h1]
    refine ⟨fun h => absurd h (by decide), fun h => ?_⟩
    have a : y.toInt < x.toInt := Int64.lt_iff_toInt_lt.mp h1
    rw [h] at a
    omega
  · rw [if_neg h1]
    by_cases h2 : x = y
    · rw [if_pos h2]
      exact ⟨fun _ => h2, fun _ => rfl⟩
    · rw [if_neg h2]
      exact ⟨fun h => absurd h (by decide), fun h => absurd h h2⟩
theorem pu_cmp_ge (x y : Int64) : 0 ≤ lg_cmp x y ↔ ¬ x < y := by
  rw [← pu_cmp_lt, Int32.le_iff_toInt_le, Int32.lt_iff_toInt_lt]
  show (0 : Int) ≤ _ ↔ ¬ (_ < (0 : Int))
  omega
theorem pu_neg_and (a b : Int64) : (a &&& b) < 0 ↔ a < 0 ∧ b < 0 := by
  have key : ∀ x : Int64, x < 0 ↔ x.toBitVec.msb = true := by
    intro x
    rw [Int64.lt_iff_toInt_lt, BitVec.msb_eq_toInt, decide_eq_true_eq]
    exact Iff.rfl
  rw [key, key, key, show (a &&& b).toBitVec = a.toBitVec &&& b.toBitVec from rfl, BitVec.msb_and, Bool.and_eq_true]
/-- is the sum of two longs none -/
def ovS (x y : Int64) : Bool := decide ((x ^^^ (x + y)) < 0) && decide ((y ^^^ (x + y)) < 0)
def ovD (x y : Int64) : Bool := decide ((x ^^^ y) < 0) && decide ((x ^^^ (x - y)) < 0)
theorem pu_sumFits (x y : Int64) : f_X2_sumFits x y = some (if ovS x y then 0 else 1) := by
  unfold f_X2_sumFits ovS
  by_cases h1 : (x ^^^ (x + y)) < 0 <;> by_cases h2 : (y ^^^ (x + y)) < 0 <;> simp only [pu_cmp_lt, pu_neg_and, h1, h2] <;> rfl
theorem pu_isSumOver (x y : Int64) : f_X5_isSumOver x y = some (if ovS x y then 1 else 0) := by
  unfold f_X5_isSumOver ovS
  by_cases h1 : (x ^^^ (x + y)) < 0 <;> by_cases h2 : (y ^^^ (x + y)) < 0 <;> simp only [pu_cmp_ge, h1, h2] <;> rfl
theorem pu_differenceFits (x y : Int64) : f_X2_differenceFits x y = some (if ovD x y then 0 else 1) := by
  unfold f_X2_differenceFits ovD
  by_cases h1 : (x ^^^ y) < 0 <;> by_cases h2 : (x ^^^ (x - y)) < 0 <;> simp only [pu_cmp_lt, pu_neg_and, h1, h2] <;> rfl
theorem pu_isLessOver (x y : Int64) : f_X5_isLessOver x y = some (if ovD x y then 1 else 0) := by
  unfold f_X5_isLessOver ovD
  by_cases h1 : (x ^^^ y) < 0 <;> by_cases h2 : (x ^^^ (x - y)) < 0 <;> simp only [pu_cmp_ge, h1, h2] <;> rfl
/-- is the product of two longs none, as both find it -/
def ovP (x y : Int64) : Bool := if y = 0 then false else if y = -1 then decide (x = -9223372036854775808) else !decide ((x * y) / y = x)
theorem pu_productFits (x y : Int64) : f_X2_productFits x y = some (if ovP x y then 0 else 1) := by
  unfold f_X2_productFits ovP
  simp only [pu_cmp_eq]
  by_cases h0 : y = 0
  · simp [h0]
  · by_cases h1 : y = -1
    · by_cases h2 : x = -9223372036854775808 <;> simp [h0, h1, h2]
    · by_cases h3 : x * y / y = x <;> simp [h0, h1, h3]
theorem pu_m1 {x : Int64} (h : ¬ x = -9223372036854775808) : x * -1 / -1 = x := by
  have h1 : x.toInt ≠ -9223372036854775808 := fun q => h (Int64.toInt_inj.mp q)
  have h2 := Int64.le_toInt x
  have h3 := Int64.toInt_lt x
  have e1 : (-1 : Int64).toInt = -1 := by decide
  refine Int64.toInt_inj.mp ?_
  rw [Int64.toInt_div, Int64.toInt_mul, e1, Int.mul_neg, Int.mul_one]
  have e2 : (-x.toInt).bmod (2 ^ 64) = -x.toInt := Int.bmod_eq_of_le (by omega) (by omega)
  rw [e2, Int.tdiv_neg, Int.neg_tdiv, Int.neg_neg, Int.tdiv_one]
  exact Int.bmod_eq_of_le (by omega) (by omega)
theorem pu_isProductOver (x y : Int64) : f_X5_isProductOver x y = some (if ovP x y then 1 else 0) := by
  unfold f_X5_isProductOver ovP
  simp only [pu_cmp_eq]
  by_cases hx0 : x = 0
  · subst hx0
    by_cases h0 : y = 0
    · simp [h0]
    · by_cases h1 : y = -1
      · simp [h1]
      · simp [h0, h1, Int64.zero_mul]
  · by_cases h0 : y = 0
    · simp [h0]
    · by_cases hx1 : x = -1
      · subst hx1
        by_cases h1 : y = -1
        · subst h1
          simp (decide := true)
        · by_cases h2 : y = -9223372036854775808
          · subst h2
            simp (decide := true)
          · by_cases h3 : -1 * y / y = -1 <;> simp [h0, h1, h2, h3]
      · by_cases h1 : y = -1
        · subst h1
          by_cases h2 : x = -9223372036854775808
          · simp [hx0, hx1, h2]
          · simp [hx0, hx1, h2, pu_m1 h2]
        · by_cases h3 : x * y / y = x <;> simp [hx0, h0, hx1, h1, h3]
theorem pu_in (x y z : Int64) : f_X5_in x y z = some (if y ≤ x ∧ x ≤ z then 1 else 0) := by
  unfold f_X5_in
  simp only [pu_cmp_lt, pu_cmp_gt]
  have e1 : y ≤ x ↔ ¬ x < y := by rw [Int64.le_iff_toInt_le, Int64.lt_iff_toInt_lt]; omega
  have e2 : x ≤ z ↔ ¬ z < x := by rw [Int64.le_iff_toInt_le, Int64.lt_iff_toInt_lt]; omega
  by_cases h1 : x < y <;> by_cases h2 : z < x <;> simp [h1, h2, e1, e2]
theorem inb_iff {v : Int32} {n : Nat} : inb v n = true ↔ 0 ≤ v.toInt ∧ v.toInt < n := by
  rw [← vp_in_iff]
  refine ⟨inb_vp, fun h => ?_⟩
  unfold inb
  have h1 : ¬ v < 0 := fun q => h (Or.inl q)
  have h2 : v.toNatClampNeg < n := Nat.not_le.mp (fun q => h (Or.inr q))
  simp [h1, h2]
theorem inb_nI {k n : Nat} (hk : k < 2 ^ 31) : inb (nI k) n = decide (k < n) := by
  by_cases h : k < n
  · rw [decide_eq_true h, inb_iff, nI_toInt hk]
    omega
  · rw [decide_eq_false h]
    refine Bool.eq_false_iff.mpr (fun q => ?_)
    rw [inb_iff, nI_toInt hk] at q
    omega
theorem inb_t {k n : Nat} (h : k < n) (hk : k < 2 ^ 31) : inb (nI k) n = true := by rw [inb_nI hk, decide_eq_true h]
theorem inb_ex {v : Int32} {n : Nat} (h : inb v n = true) (hn : n < 2 ^ 31) : ∃ k, k < n ∧ v = nI k := vp_in_of (inb_vp h) hn
theorem inb_f {v : Int32} {n : Nat} (hn : n < 2 ^ 31) : inb v n = false ↔ v < 0 ∨ nI n ≤ v := by
  rw [Bool.eq_false_iff, Ne, inb_iff, Int32.lt_iff_toInt_lt, Int32.le_iff_toInt_le, nI_toInt hn]
  show ¬ _ ↔ _ < (0 : Int) ∨ _
  omega
theorem pu_cls4 {E : Nat} (hE : E < 2 ^ 31) (v : Int32) : f_X4_isClass (nI E) v = some (if inb v E then 1 else 0) := by
  unfold f_X4_isClass
  cases hb : inb v E
  · rcases (inb_f hE).mp hb with h | h
    · rw [if_pos h]; rfl
    · by_cases h0 : v < 0
      · rw [if_pos h0]; rfl
      · rw [if_neg h0, if_pos h]; rfl
  · rw [inb_iff] at hb
    have h1 : ¬ v < 0 := by rw [Int32.lt_iff_toInt_lt]; show ¬ _ < (0 : Int); omega
    have h2 : ¬ nI E ≤ v := by rw [Int32.le_iff_toInt_le, nI_toInt hE]; omega
    rw [if_neg h1, if_neg h2]; rfl
theorem pu_shelf4 (v : Int32) : f_X4_isShelf v = some (if inb v 4 then 1 else 0) := pu_cls4 (E := 4) (by decide) v
theorem pu_list4 (v : Int32) : f_X4_isList v = some (if inb v 3 then 1 else 0) := pu_cls4 (E := 3) (by decide) v
theorem pu_rest4 {E : Nat} (hE : E < 2 ^ 31) (v : Int32) : f_X4_isRest (nI E) v = some (if inb v E then 1 else 0) := pu_cls4 hE v
theorem pu_in0 (v z : Int32) {n : Nat} (hn : n < 2 ^ 31) (hz : z.toInt = (n : Int) - 1) : f_X5_in v.toInt64 0 z.toInt64 = some (if inb v n then 1 else 0) := by
  rw [pu_in]
  have e : ((0 : Int64) ≤ v.toInt64 ∧ v.toInt64 ≤ z.toInt64) ↔ inb v n = true := by
    rw [inb_iff, Int64.le_iff_toInt_le, Int64.le_iff_toInt_le, Int32.toInt_toInt64, Int32.toInt_toInt64, hz]
    show (0 : Int) ≤ _ ∧ _ ↔ _
    omega
  by_cases h : inb v n = true
  · rw [if_pos (e.mpr h), if_pos h]
  · rw [if_neg (fun q => h (e.mp q)), if_neg h]
theorem pu_cls5 {E : Nat} (h1 : 1 ≤ E) (hE : E < 2 ^ 30) (v : Int32) : f_X5_isClass (nI E) v = some (if inb v E then 1 else 0) := by
  unfold f_X5_isClass
  rw [pu_in0 v (nI E - 1) (n := E) (by omega) (pk_sub_toInt (b := 1) hE (by decide)), Option.bind_some]
  cases inb v E <;> rfl
theorem pu_in0c (v : Int32) (z : Int64) {n : Nat} (hn : n < 2 ^ 31) (hz : z.toInt = (n : Int) - 1) : f_X5_in v.toInt64 0 z = some (if inb v n then 1 else 0) := by
  rw [pu_in]
  have e : ((0 : Int64) ≤ v.toInt64 ∧ v.toInt64 ≤ z) ↔ inb v n = true := by
    rw [inb_iff, Int64.le_iff_toInt_le, Int64.le_iff_toInt_le, Int32.toInt_toInt64, hz]
    show (0 : Int) ≤ _ ∧ _ ↔ _
    omega
  by_cases h : inb v n = true
  · rw [if_pos (e.mpr h), if_pos h]
  · rw [if_neg (fun q => h (e.mp q)), if_neg h]
theorem pu_shelf5 (v : Int32) : f_X5_isShelf v = some (if inb v 4 then 1 else 0) := by
  unfold f_X5_isShelf
  rw [pu_in0c v 3 (n := 4) (by decide) (by decide), Option.bind_some]
  cases inb v 4 <;> rfl
theorem pu_list5 (v : Int32) : f_X5_isList v = some (if inb v 3 then 1 else 0) := by
  unfold f_X5_isList
  rw [pu_in0c v 2 (n := 3) (by decide) (by decide), Option.bind_some]
  cases inb v 3 <;> rfl
theorem prs_bd {P : Nat} (h : P ∈ prs) : 3 ≤ P ∧ P ≤ 61 := by
  have h2 : ∀ x ∈ prs, 3 ≤ x ∧ x ≤ 61 := by decide
  exact h2 P h
theorem Vd.bd {P E g : Nat} (h : Vd P E g) : 3 ≤ P ∧ P ≤ 61 ∧ 1 ≤ E ∧ E ≤ 12 ∧ 1 ≤ g ∧ g < P := by
  obtain ⟨h1, h2, h3, -, h5⟩ := h
  have hb := prs_bd h1
  unfold isG at h5
  simp only [Bool.and_eq_true, decide_eq_true_eq] at h5
  exact ⟨hb.1, hb.2, h2, h3, h5.1.1, h5.1.2⟩
