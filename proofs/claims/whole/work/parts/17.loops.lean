/-! THE PRIME PART of the class: powers, BESIDE, TIMES, raised, generators -/
theorem q_pred {P : Nat} (h : 1 ≤ P) : nI P - 1 = nI (P - 1) := pk_sub (b := 1) h
theorem q_rem {a d : Nat} (ha : a < 2 ^ 31) (h0 : 0 < d) (hd : d < 2 ^ 31) : nI a - nI a / nI d * nI d = nI (a % d) := pk_rem ha h0 hd
theorem q_ne0 {n : Nat} (h0 : 0 < n) (h : n < 2 ^ 31) : ¬ nI n = 0 := nI_ne0 h0 h
theorem q_le {a b : Nat} (ha : a < 2 ^ 31) (hb : b < 2 ^ 31) (h : a ≤ b) : nI a ≤ nI b := (nI_leI ha hb).mpr h
theorem q_nle {a b : Nat} (ha : a < 2 ^ 31) (hb : b < 2 ^ 31) (h : b < a) : ¬ nI a ≤ nI b := fun q => absurd ((nI_leI ha hb).mp q) (Nat.not_le.mpr h)
theorem q_lt {a b : Nat} (ha : a < 2 ^ 31) (hb : b < 2 ^ 31) (h : a < b) : nI a < nI b := (nI_ltI ha hb).mpr h
theorem q_nlt {a b : Nat} (ha : a < 2 ^ 31) (hb : b < 2 ^ 31) (h : b ≤ a) : ¬ nI a < nI b := fun q => absurd ((nI_ltI ha hb).mp q) (Nat.not_lt.mpr h)
theorem q_eq {a b : Nat} (ha : a < 2 ^ 31) (hb : b < 2 ^ 31) : nI a = nI b ↔ a = b := nI_eq ha hb
theorem q_s (a : Nat) : nI a + 1 = nI (a + 1) := nI_1 a
theorem q_step (g k P : Nat) : g ^ k % P * g % P = g ^ (k + 1) % P := by rw [Nat.pow_succ, Nat.mod_mul_mod]
theorem lp_powers {P g : Nat} (hP : P ∈ prs) (hg : isG P g = true) (hg2 : g < P) : ∀ (fu k : Nat) (aW : Nat → Int32), k ≤ P - 1 → P - 1 - k < fu →
    ∃ aW', f_X0_findPowers_L4 (nI P) (nI g) fu aW (nI (g ^ k % P)) (nI k) = some aW' ∧ (∀ j, k ≤ j → j < P - 1 → aW' (g ^ j % P) = nI j) ∧ ∀ x, (∀ j, k ≤ j → j < P - 1 → x ≠ g ^ j % P) → aW' x = aW x := by
  have hb := prs_bd hP
  intro fu
  induction fu with
  | zero => intro k aW h1 h2; exact absurd h2 (Nat.not_lt_zero _)
  | succ fu ih =>
    intro k aW h1 h2
    have hm : g ^ k % P < P := Nat.mod_lt _ (by omega)
    rw [f_X0_findPowers_L4, q_pred (by omega)]
    rcases Nat.lt_or_ge k (P - 1) with q | q
    · rw [if_neg (q_nle (by omega) (by omega) q), if_pos (inb_t (by omega) (by omega)), if_neg (q_ne0 (by omega) (by omega)), pk_mul, nI_clamp (by omega), q_rem (by have := Nat.mul_le_mul (Nat.le_of_lt hm) (Nat.le_of_lt hg2); have : P * P ≤ 61 * 61 := Nat.mul_le_mul hb.2 hb.2; omega) (by omega) (by omega), q_step, q_s]
      obtain ⟨aW', e1, e2, e3⟩ := ih (k + 1) (upd aW (g ^ k % P) (nI k)) (by omega) (by omega)
      refine ⟨aW', e1, fun j hj1 hj2 => ?_, fun x hx => ?_⟩
      · rcases Nat.lt_or_ge k j with z | z
        · exact e2 j z hj2
        · obtain rfl : j = k := by omega
          rw [e3 _ (fun i hi1 hi2 he => ?_), pk_us]
          have a1 := dl_pow hP hg hi2
          have a2 := dl_pow hP hg hj2
          rw [← he, a2] at a1
          omega
      · rw [e3 x (fun j hj1 hj2 => hx j (by omega) hj2), pk_un (hx k (Nat.le_refl k) q)]
    · rw [if_pos (q_le (by omega) (by omega) q)]
      exact ⟨aW, rfl, fun j hj1 hj2 => absurd hj2 (by omega), fun x hx => rfl⟩
/-- POWERS as told -/
def PW (P g : Nat) (aW : Nat → Int32) : Prop := ∀ x, 1 ≤ x → x < P → aW x = nI (dl P g x)
theorem findPowers_ok {P g : Nat} (hP : P ∈ prs) (hg : isG P g = true) (hg2 : g < P) (aW : Nat → Int32) : ∃ aW', f_X0_findPowers (nI P) (nI g) aW = some aW' ∧ PW P g aW' := by
  have hb := prs_bd hP
  obtain ⟨aW', e1, e2, -⟩ := lp_powers hP hg hg2 FU 0 aW (Nat.zero_le _) (by show _ < 2000; omega)
  rw [Nat.pow_zero, Nat.mod_eq_of_lt (show 1 < P by omega)] at e1
  refine ⟨aW', e1, fun x h1 h2 => ?_⟩
  have h3 := dl_x hP hg h1 h2
  have h4 := e2 (dl P g x) (Nat.zero_le _) h3.2.1
  rw [h3.1] at h4
  exact h4
theorem classNumber_ok {P E g : Nat} (hV : Vd P E g) {aW : Nat → Int32} (hW : PW P g aW) {x : Nat} (h1 : 1 ≤ x) (h2 : x < P) : f_X0_classNumber (nI E) aW (nI x) = some (nI (cl P E g x)) := by
  have hb := hV.bd
  have h3 := dl_x hV.1 hV.2.2.2.2 h1 h2
  unfold f_X0_classNumber
  rw [if_pos (inb_t (by omega) (by omega)), if_neg (q_ne0 (by omega) (by omega)), nI_clamp (by omega), hW x h1 h2, q_rem (by omega) (by omega) (by omega)]
  rfl
theorem cl_lt {P E g : Nat} (hV : Vd P E g) (x : Nat) : cl P E g x < E := Nat.mod_lt _ (by have := hV.bd; omega)
theorem cnt1_s (f : Nat → Bool) (n : Nat) : cnt1 f (n + 1) = cnt1 f n + (if f (n + 1) then 1 else 0) := rfl
theorem cnt1_le (f : Nat → Bool) : ∀ n, cnt1 f n ≤ n
  | 0 => Nat.le_refl 0
  | n + 1 => by
    have h := cnt1_le f n
    rw [cnt1_s]
    split <;> omega
theorem q_ix12 {i j : Nat} : nI i * 12 + nI j = nI (12 * i + j) := by
  rw [show (12 : Int32) = nI 12 from rfl, pk_mul, nI_add, Nat.mul_comm]
/-- the counting loop of BESIDE: at x it holds, at each place, how many came there -/
theorem lp_nb {P E g : Nat} (hV : Vd P E g) {aW : Nat → Int32} (hW : PW P g aW) : ∀ (fu x : Nat) (aN : Nat → Int32), 1 ≤ x → x ≤ P - 1 → P - 1 - x < fu →
    (∀ i j, i < 12 → j < 12 → aN (12 * i + j) = nI (cnt1 (fun x => cl P E g x == i && cl P E g (x + 1) == j) (x - 1))) →
    ∃ aN', f_X0_findNeighbours_L26 (nI P) (nI E) aW fu aN (nI x) = some aN' ∧ ∀ i j, i < 12 → j < 12 → aN' (12 * i + j) = nI (bes P E g i j) := by
  have hb := hV.bd
  intro fu
  induction fu with
  | zero => intro x aN h0 h1 h2; exact absurd h2 (Nat.not_lt_zero _)
  | succ fu ih =>
    intro x aN h0 h1 h2 hA
    rw [f_X0_findNeighbours_L26, q_s]
    rcases Nat.lt_or_ge (x + 1) P with q | q
    · have c1 := cl_lt hV x
      have c2 := cl_lt hV (x + 1)
      rw [if_neg (q_nle (by omega) (by omega) q), classNumber_ok hV hW h0 (by omega), Option.bind_some, classNumber_ok hV hW (by omega) q, Option.bind_some, q_ix12, if_pos (inb_t (by omega) (by omega)), if_pos (inb_t (by omega) (by omega)), nI_clamp (by omega)]
      refine ih (x + 1) _ (by omega) (by omega) (by omega) (fun i j hi hj => ?_)
      rw [show x + 1 - 1 = x - 1 + 1 by omega, cnt1_s, show x - 1 + 1 = x by omega]
      by_cases he : 12 * i + j = 12 * cl P E g x + cl P E g (x + 1)
      · have e1 : cl P E g x = i := by omega
        have e2 : cl P E g (x + 1) = j := by omega
        rw [he, pk_us, ← he, hA i j hi hj, q_s, e1, e2]
        simp
      · rw [pk_un he, hA i j hi hj]
        have e1 : ¬ (cl P E g x = i ∧ cl P E g (x + 1) = j) := fun z => he (by rw [z.1, z.2])
        by_cases z1 : cl P E g x = i
        · have z2 : ¬ cl P E g (x + 1) = j := fun z => e1 ⟨z1, z⟩
          simp [z1, z2]
        · simp [z1]
    · rw [if_pos (q_le (by omega) (by omega) q)]
      refine ⟨aN, rfl, fun i j hi hj => ?_⟩
      rw [hA i j hi hj, show x - 1 = P - 2 by omega]
      rfl
theorem lp_nb0 {P E : Nat} {aW : Nat → Int32} : ∀ (fu k : Nat) (aN : Nat → Int32), k ≤ 144 → 144 - k < fu → (∀ i, i < k → aN i = 0) →
    ∃ aN', (∀ i, i < 144 → aN' i = 0) ∧ f_X0_findNeighbours_L2 (nI P) (nI E) aW fu aN (nI k) = f_X0_findNeighbours_L26 (nI P) (nI E) aW FU aN' 1 := by
  intro fu
  induction fu with
  | zero => intro k aN h1 h2; exact absurd h2 (Nat.not_lt_zero _)
  | succ fu ih =>
    intro k aN h1 h2 hA
    rw [f_X0_findNeighbours_L2]
    rcases Nat.lt_or_ge k 144 with q | q
    · rw [if_neg (show ¬ (144 : Int32) ≤ nI k from q_nle (a := 144) (by decide) (by omega) q), if_pos (inb_t q (by omega)), nI_clamp (by omega), q_s]
      refine ih (k + 1) _ (by omega) (by omega) (fun i hi => ?_)
      by_cases he : i = k
      · rw [he, pk_us]
      · rw [pk_un he]
        exact hA i (by omega)
    · rw [if_pos (show (144 : Int32) ≤ nI k from q_le (a := 144) (by decide) (by omega) q)]
      exact ⟨aN, fun i hi => hA i (by omega), rfl⟩
theorem findNeighbours_ok {P E g : Nat} (hV : Vd P E g) {aW : Nat → Int32} (hW : PW P g aW) (aN : Nat → Int32) : ∃ aN', f_X0_findNeighbours (nI P) (nI E) aW aN = some aN' ∧ ∀ i j, i < 12 → j < 12 → aN' (12 * i + j) = nI (bes P E g i j) := by
  have hb := hV.bd
  unfold f_X0_findNeighbours
  obtain ⟨aN1, h0, e⟩ := lp_nb0 (P := P) (E := E) (aW := aW) FU 0 aN (by omega) (by show _ < 2000; omega) (fun i h => absurd h (Nat.not_lt_zero i))
  rw [show (0 : Int32) = nI 0 from rfl, e, show (1 : Int32) = nI 1 from rfl]
  exact lp_nb hV hW FU 1 aN1 (by omega) (by omega) (by show _ < 2000; omega) (fun i j hi hj => by rw [h0 _ (by omega)]; rfl)
theorem q_ix144 {i j h : Nat} : (nI i * 12 + nI j) * 12 + nI h = nI (144 * i + 12 * j + h) := by
  rw [q_ix12, q_ix12]
  congr 1
  omega
theorem factorIndex_ok (i j h : Nat) : f_X4_factorIndex (nI i) (nI j) (nI h) = some (nI (144 * i + 12 * j + h)) := by
  unfold f_X4_factorIndex
  rw [q_ix144]
theorem mod_sub {z x P : Nat} (h1 : 1 ≤ x) (h2 : x < P) (h3 : 1 ≤ z) (h4 : z < P) (h5 : x ≠ z) : (z + P - x) % P = if x < z then z - x else z + P - x := by
  by_cases h : x < z
  · rw [if_pos h, show z + P - x = z - x + P by omega, Nat.add_mod_right, Nat.mod_eq_of_lt (by omega)]
  · rw [if_neg h, Nat.mod_eq_of_lt (by omega)]
theorem q_subadd {z x P : Nat} (h : x ≤ z + P) : nI z - nI x + nI P = nI (z + P - x) := by
  have e : nI (z + P - x) + nI x = nI z + nI P := by rw [nI_add, nI_add, show z + P - x + x = z + P by omega]
  have e2 : nI z - nI x + nI P = nI z + nI P - nI x := by rw [Int32.sub_eq_add_neg, Int32.sub_eq_add_neg, Int32.add_assoc, Int32.add_assoc, Int32.add_comm (-nI x)]
  rw [e2, ← e, Int32.add_sub_cancel]
def metf (P E g z i j x : Nat) : Bool := !(x == z) && (cl P E g x == i && cl P E g ((z + P - x) % P) == j)
theorem met_def (P E g z i j : Nat) : met P E g z i j = cnt1 (metf P E g z i j) (P - 1) := rfl
theorem lp_cm {P E g z h : Nat} (hV : Vd P E g) {aW : Nat → Int32} (hW : PW P g aW) (hz1 : 1 ≤ z) (hz2 : z < P) (hh : h < 12) (B : Nat → Nat → Int32) (aF0 : Nat → Int32) : ∀ (fu x : Nat) (aF : Nat → Int32), 1 ≤ x → x ≤ P → P - x < fu →
    (∀ i j, i < 12 → j < 12 → aF (144 * i + 12 * j + h) = B i j + nI (cnt1 (metf P E g z i j) (x - 1))) → (∀ k, k % 12 ≠ h → aF k = aF0 k) →
    ∃ aF', f_X0_countMeetings_L2 (nI P) (nI E) aW (nI z) (nI h) fu aF (nI x) = some aF' ∧ (∀ i j, i < 12 → j < 12 → aF' (144 * i + 12 * j + h) = B i j + nI (met P E g z i j)) ∧ ∀ k, k % 12 ≠ h → aF' k = aF0 k := by
  have hb := hV.bd
  intro fu
  induction fu with
  | zero => intro x aF h0 h1 h2; exact absurd h2 (Nat.not_lt_zero _)
  | succ fu ih =>
    intro x aF h0 h1 h2 hA hB
    rw [f_X0_countMeetings_L2]
    rcases Nat.lt_or_ge x P with q | q
    · rw [if_neg (q_nle (by omega) (by omega) q)]
      by_cases hxz : x = z
      · rw [if_pos (by rw [hxz]), q_s]
        refine ih (x + 1) aF (by omega) (by omega) (by omega) (fun i j hi hj => ?_) hB
        rw [show x + 1 - 1 = x - 1 + 1 by omega, cnt1_s, show x - 1 + 1 = x by omega, hA i j hi hj]
        have e1 : metf P E g z i j x = false := by simp [metf, hxz]
        rw [e1]
        simp
      · rw [if_neg (fun w => hxz ((q_eq (by omega) (by omega)).mp w))]
        have c1 := cl_lt hV x
        have hm := mod_sub h0 q hz1 hz2 hxz
        have key : ∀ y, y = (z + P - x) % P → ∃ aF', (if inb (nI (144 * cl P E g x + 12 * cl P E g y + h)) 1728 = true then if inb (nI (144 * cl P E g x + 12 * cl P E g y + h)) 1728 = true then f_X0_countMeetings_L2 (nI P) (nI E) aW (nI z) (nI h) fu (upd aF (nI (144 * cl P E g x + 12 * cl P E g y + h)).toNatClampNeg (aF (nI (144 * cl P E g x + 12 * cl P E g y + h)).toNatClampNeg + 1)) (nI x + 1) else none else none) = some aF' ∧ (∀ i j, i < 12 → j < 12 → aF' (144 * i + 12 * j + h) = B i j + nI (met P E g z i j)) ∧ ∀ k, k % 12 ≠ h → aF' k = aF0 k := by
          intro y hy
          have c2 := cl_lt hV y
          rw [if_pos (inb_t (by omega) (by omega)), if_pos (inb_t (by omega) (by omega)), nI_clamp (by omega), q_s]
          refine ih (x + 1) _ (by omega) (by omega) (by omega) (fun i j hi hj => ?_) (fun k hk => ?_)
          · rw [show x + 1 - 1 = x - 1 + 1 by omega, cnt1_s, show x - 1 + 1 = x by omega]
            by_cases he : 144 * i + 12 * j + h = 144 * cl P E g x + 12 * cl P E g y + h
            · have e1 : cl P E g x = i := by omega
              have e2 : cl P E g y = j := by omega
              have e3 : metf P E g z i j x = true := by simp [metf, hxz, e1, ← hy, e2]
              rw [he, pk_us, ← he, hA i j hi hj, e3, Int32.add_assoc, q_s]
              simp
            · rw [pk_un he, hA i j hi hj]
              have e3 : metf P E g z i j x = false := by
                refine Bool.eq_false_iff.mpr (fun w => ?_)
                simp [metf, hxz, ← hy] at w
                exact he (by rw [w.1, w.2])
              rw [e3]
              simp
          · rw [pk_un (fun w => hk (by rw [w]; omega))]
            exact hB k hk
        by_cases hlt : x < z
        · rw [if_pos hlt] at hm
          rw [if_neg (q_nle (by omega) (by omega) hlt), classNumber_ok hV hW h0 q, Option.bind_some, pk_sub (by omega), classNumber_ok hV hW (by omega) (by omega), Option.bind_some, factorIndex_ok, Option.bind_some]
          exact key (z - x) hm.symm
        · rw [if_neg hlt] at hm
          rw [if_pos (q_le (by omega) (by omega) (by omega)), classNumber_ok hV hW h0 q, Option.bind_some, q_subadd (by omega), classNumber_ok hV hW (by omega) (by omega), Option.bind_some, factorIndex_ok, Option.bind_some]
          exact key (z + P - x) hm.symm
    · rw [if_pos (q_le (by omega) (by omega) q)]
      refine ⟨aF, rfl, fun i j hi hj => ?_, hB⟩
      rw [hA i j hi hj, met_def, show x = P by omega]
theorem countMeetings_ok {P E g z h : Nat} (hV : Vd P E g) {aW : Nat → Int32} (hW : PW P g aW) (hz1 : 1 ≤ z) (hz2 : z < P) (hh : h < 12) (aF : Nat → Int32) : ∃ aF', f_X0_countMeetings (nI P) (nI E) aW aF (nI z) (nI h) = some aF' ∧ (∀ i j, i < 12 → j < 12 → aF' (144 * i + 12 * j + h) = aF (144 * i + 12 * j + h) + nI (met P E g z i j)) ∧ ∀ k, k % 12 ≠ h → aF' k = aF k := by
  have hb := hV.bd
  exact lp_cm hV hW hz1 hz2 hh (fun i j => aF (144 * i + 12 * j + h)) aF FU 1 aF (by omega) (by omega) (by show _ < 2000; omega) (fun i j hi hj => by show _ = _ + nI 0; rw [nI_0, Int32.add_zero]) (fun _ _ => rfl)
