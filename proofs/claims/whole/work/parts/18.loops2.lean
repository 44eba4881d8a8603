/-! THE PRIME PART of the class, on: TIMES, raised, generators -/
theorem q_half {P : Nat} (h : P < 2 ^ 31) : nI P / 2 = nI (P / 2) := pk_div (d := 2) h (by decide) (by decide)
theorem opp_lt {P E : Nat} (h : 1 ≤ E) (i : Nat) : opp P E i < E := Nat.mod_lt _ h
theorem oppositeOf_ok {P E i : Nat} (hP : 1 ≤ P) (hP2 : P ≤ 61) (hE : 1 ≤ E) (hE2 : E ≤ 12) (hi : i < 100) : f_X0_oppositeOf (nI P) (nI E) (nI i) = some (nI (opp P E i)) := by
  unfold f_X0_oppositeOf
  rw [if_neg (q_ne0 (by omega) (by omega)), q_pred hP, q_half (by omega), nI_add, q_rem (by omega) (by omega) (by omega)]
  rfl
theorem lp_f42 {P E F g i j : Nat} {aW : Nat → Int32} {v : Int32} {KK : (Nat → Int32) → Int32 → Int32 → Option (Nat → Int32)} (hE : E ≤ 12) (hi : i < 12) (hj : j < 12) : ∀ (fu h : Nat) (aF : Nat → Int32), h ≤ E → E - h < fu →
    ∃ aF', f_X0_findFactors_L42 (nI P) (nI E) (nI F) (nI g) aW KK fu aF (nI i) (nI j) v (nI h) = KK aF' (nI i) (nI j + 1) ∧ (∀ h', h ≤ h' → h' < E → aF' (144 * i + 12 * j + h') = v) ∧ ∀ k, (∀ h', h ≤ h' → h' < E → k ≠ 144 * i + 12 * j + h') → aF' k = aF k := by
  intro fu
  induction fu with
  | zero => intro h aF h1 h2; exact absurd h2 (Nat.not_lt_zero _)
  | succ fu ih =>
    intro h aF h1 h2
    rw [f_X0_findFactors_L42]
    rcases Nat.lt_or_ge h E with q | q
    · rw [if_neg (q_nle (by omega) (by omega) q), factorIndex_ok, Option.bind_some, if_pos (inb_t (by omega) (by omega)), nI_clamp (by omega), q_s]
      obtain ⟨aF', e1, e2, e3⟩ := ih (h + 1) (upd aF (144 * i + 12 * j + h) v) (by omega) (by omega)
      refine ⟨aF', e1, fun h' hh1 hh2 => ?_, fun k hk => ?_⟩
      · rcases Nat.lt_or_ge h h' with z | z
        · exact e2 h' z hh2
        · obtain rfl : h' = h := by omega
          rw [e3 _ (fun h2 a b c => by omega), pk_us]
      · rw [e3 k (fun h' a b => hk h' (by omega) b), pk_un (hk h (Nat.le_refl h) q)]
    · rw [if_pos (q_le (by omega) (by omega) q)]
      exact ⟨aF, rfl, fun h' a b => absurd b (by omega), fun k _ => rfl⟩
/-- what stands in TIMES' table ahead of the counting -/
def tim0 (P E F i j : Nat) : Int32 := if opp P E i = j then -nI F else 0
theorem lp_f12 {P E F g i : Nat} {aW : Nat → Int32} {KK : (Nat → Int32) → Int32 → Option (Nat → Int32)} (hP : 1 ≤ P) (hP2 : P ≤ 61) (hE1 : 1 ≤ E) (hE : E ≤ 12) (hi : i < E) : ∀ (fu j : Nat) (aF : Nat → Int32), j ≤ E → E - j < fu →
    ∃ aF', f_X0_findFactors_L12 (nI P) (nI E) (nI F) (nI g) aW KK fu aF (nI i) (nI j) = KK aF' (nI i + 1) ∧ (∀ j' h', j ≤ j' → j' < E → h' < E → aF' (144 * i + 12 * j' + h') = tim0 P E F i j') ∧ ∀ k, (∀ j' h', j ≤ j' → j' < E → h' < E → k ≠ 144 * i + 12 * j' + h') → aF' k = aF k := by
  intro fu
  induction fu with
  | zero => intro j aF h1 h2; exact absurd h2 (Nat.not_lt_zero _)
  | succ fu ih =>
    intro j aF h1 h2
    rw [f_X0_findFactors_L12]
    rcases Nat.lt_or_ge j E with q | q
    · have ho := opp_lt (P := P) hE1 i
      rw [if_neg (q_nle (by omega) (by omega) q), oppositeOf_ok hP hP2 hE1 hE (by omega), Option.bind_some]
      have key : ∀ v, v = tim0 P E F i j → ∃ aF', f_X0_findFactors_L42 (nI P) (nI E) (nI F) (nI g) aW (fun w0 w1 w2 => f_X0_findFactors_L12 (nI P) (nI E) (nI F) (nI g) aW KK fu w0 w1 w2) FU aF (nI i) (nI j) v 0 = KK aF' (nI i + 1) ∧ (∀ j' h', j ≤ j' → j' < E → h' < E → aF' (144 * i + 12 * j' + h') = tim0 P E F i j') ∧ ∀ k, (∀ j' h', j ≤ j' → j' < E → h' < E → k ≠ 144 * i + 12 * j' + h') → aF' k = aF k := by
        intro v hv
        obtain ⟨a1, e1, e2, e3⟩ := lp_f42 (P := P) (F := F) (g := g) (aW := aW) (v := v) (KK := fun w0 w1 w2 => f_X0_findFactors_L12 (nI P) (nI E) (nI F) (nI g) aW KK fu w0 w1 w2) hE (show i < 12 by omega) (show j < 12 by omega) FU 0 aF (Nat.zero_le _) (by show _ < 2000; omega)
        obtain ⟨a2, d1, d2, d3⟩ := ih (j + 1) a1 (by omega) (by omega)
        refine ⟨a2, ?_, fun j' h' x1 x2 x3 => ?_, fun k hk => ?_⟩
        · rw [show (0 : Int32) = nI 0 from rfl, e1]
          show f_X0_findFactors_L12 _ _ _ _ _ _ _ _ _ (nI j + 1) = _
          rw [q_s]
          exact d1
        · rcases Nat.lt_or_ge j j' with z | z
          · exact d2 j' h' z x2 x3
          · obtain rfl : j' = j := by omega
            rw [d3 _ (fun j2 h2 y1 y2 y3 => by omega), e2 h' (Nat.zero_le _) x3, hv]
        · rw [d3 k (fun j' h' y1 y2 y3 => hk j' h' (by omega) y2 y3), e3 k (fun h' y1 y2 => hk j h' (Nat.le_refl j) q y2)]
      by_cases hoj : opp P E i = j
      · rw [if_pos (by rw [hoj])]
        exact key (-nI F) (by simp [tim0, hoj])
      · rw [if_neg (fun w => hoj ((q_eq (by omega) (by omega)).mp w))]
        exact key 0 (by simp [tim0, hoj])
    · rw [if_pos (q_le (by omega) (by omega) q)]
      exact ⟨aF, rfl, fun j' h' a b => absurd b (by omega), fun k _ => rfl⟩
theorem lp_f2 {P E F g : Nat} {aW : Nat → Int32} (hP : 1 ≤ P) (hP2 : P ≤ 61) (hE1 : 1 ≤ E) (hE : E ≤ 12) : ∀ (fu i : Nat) (aF : Nat → Int32), i ≤ E → E - i < fu → (∀ i' j h, i' < i → j < E → h < E → aF (144 * i' + 12 * j + h) = tim0 P E F i' j) →
    ∃ aF', f_X0_findFactors_L2 (nI P) (nI E) (nI F) (nI g) aW fu aF (nI i) = f_X0_findFactors_L86 (nI P) (nI E) (nI F) (nI g) aW FU aF' 1 0 ∧ ∀ i j h, i < E → j < E → h < E → aF' (144 * i + 12 * j + h) = tim0 P E F i j := by
  intro fu
  induction fu with
  | zero => intro i aF h1 h2; exact absurd h2 (Nat.not_lt_zero _)
  | succ fu ih =>
    intro i aF h1 h2 hA
    rw [f_X0_findFactors_L2]
    rcases Nat.lt_or_ge i E with q | q
    · rw [if_neg (q_nle (by omega) (by omega) q)]
      obtain ⟨a1, e1, e2, e3⟩ := lp_f12 (P := P) (F := F) (g := g) (aW := aW) (KK := fun w0 w1 => f_X0_findFactors_L2 (nI P) (nI E) (nI F) (nI g) aW fu w0 w1) hP hP2 hE1 hE q FU 0 aF (Nat.zero_le _) (by show _ < 2000; omega)
      rw [show (0 : Int32) = nI 0 from rfl, e1]
      show ∃ aF', f_X0_findFactors_L2 _ _ _ _ _ _ _ (nI i + 1) = _ ∧ _
      rw [q_s]
      refine ih (i + 1) a1 (by omega) (by omega) (fun i' j h x1 x2 x3 => ?_)
      rcases Nat.lt_or_ge i' i with z | z
      · rw [e3 _ (fun j2 h2 y1 y2 y3 => by omega), hA i' j h z x2 x3]
      · obtain rfl : i' = i := by omega
        exact e2 j h (Nat.zero_le _) x2 x3
    · rw [if_pos (q_le (by omega) (by omega) q)]
      exact ⟨aF, rfl, fun i j h x1 x2 x3 => hA i j h (by omega) x2 x3⟩
theorem lp_f86 {P E F g : Nat} (hV : Vd P E g) {aW : Nat → Int32} (hW : PW P g aW) : ∀ (fu h : Nat) (aF : Nat → Int32), h ≤ E → E - h < fu → (∀ i j h', i < E → j < E → h' < E → aF (144 * i + 12 * j + h') = tim0 P E F i j + (if h' < h then nI (met P E g (g ^ h' % P) i j) else 0)) →
    ∃ aF', f_X0_findFactors_L86 (nI P) (nI E) (nI F) (nI g) aW fu aF (nI (g ^ h % P)) (nI h) = some aF' ∧ ∀ i j h', i < E → j < E → h' < E → aF' (144 * i + 12 * j + h') = tim0 P E F i j + nI (met P E g (g ^ h' % P) i j) := by
  have hb := hV.bd
  have hdv : E ≤ P - 1 := Nat.le_of_dvd (by omega) (Nat.dvd_of_mod_eq_zero hV.2.2.2.1)
  intro fu
  induction fu with
  | zero => intro h aF h1 h2; exact absurd h2 (Nat.not_lt_zero _)
  | succ fu ih =>
    intro h aF h1 h2 hA
    rw [f_X0_findFactors_L86]
    rcases Nat.lt_or_ge h E with q | q
    · have hm : g ^ h % P < P := Nat.mod_lt _ (by omega)
      have hm1 := pow_ne0 hV.1 hV.2.2.2.2 (k := h) (by omega)
      obtain ⟨a1, e1, e2, e3⟩ := countMeetings_ok hV hW hm1 hm (h := h) (by omega) aF
      rw [if_neg (q_nle (by omega) (by omega) q), e1, Option.bind_some, if_neg (q_ne0 (by omega) (by omega)), pk_mul, q_rem (by have := Nat.mul_le_mul (Nat.le_of_lt hm) (Nat.le_of_lt hb.2.2.2.2.2); have : P * P ≤ 61 * 61 := Nat.mul_le_mul hb.2.1 hb.2.1; omega) (by omega) (by omega), q_step, q_s]
      refine ih (h + 1) a1 (by omega) (by omega) (fun i j h' x1 x2 x3 => ?_)
      by_cases hh : h' = h
      · subst hh
        rw [e2 i j (by omega) (by omega), hA i j h' x1 x2 x3]
        simp
      · rw [e3 _ (by omega), hA i j h' x1 x2 x3]
        by_cases z : h' < h
        · rw [if_pos z, if_pos (by omega)]
        · rw [if_neg z, if_neg (by omega)]
    · rw [if_pos (q_le (by omega) (by omega) q)]
      refine ⟨aF, rfl, fun i j h' x1 x2 x3 => ?_⟩
      rw [hA i j h' x1 x2 x3, if_pos (by omega)]
theorem tim_eq {P E F g i j h : Nat} (hF : F = (P - 1) / E) : tim0 P E F i j + nI (met P E g (g ^ h % P) i j) = tim P E g i j h := by
  unfold tim0 tim
  by_cases ho : opp P E i = j
  · rw [if_pos ho, if_pos ho, Int32.add_comm, Int32.add_neg_eq_sub, hF]
  · rw [if_neg ho, if_neg ho, Int32.zero_add, Int32.sub_zero]
/-- TIMES as told -/
def TF (P E g : Nat) (aF : Nat → Int32) : Prop := ∀ i j h, i < E → j < E → h < E → aF (144 * i + 12 * j + h) = tim P E g i j h
theorem findFactors_ok {P E g : Nat} (hV : Vd P E g) {aW : Nat → Int32} (hW : PW P g aW) (aF : Nat → Int32) : ∃ aF', f_X0_findFactors (nI P) (nI E) (nI ((P - 1) / E)) (nI g) aW aF = some aF' ∧ TF P E g aF' := by
  have hb := hV.bd
  unfold f_X0_findFactors
  obtain ⟨a1, e1, e2⟩ := lp_f2 (P := P) (E := E) (F := (P - 1) / E) (g := g) (aW := aW) (by omega) hb.2.1 hb.2.2.1 hb.2.2.2.1 FU 0 aF (Nat.zero_le _) (by show _ < 2000; omega) (fun i' j h x => absurd x (Nat.not_lt_zero _))
  rw [show (0 : Int32) = nI 0 from rfl, e1]
  obtain ⟨a2, d1, d2⟩ := lp_f86 (F := (P - 1) / E) hV hW FU 0 a1 (Nat.zero_le _) (by show _ < 2000; omega) (fun i j h' x1 x2 x3 => by rw [e2 i j h' x1 x2 x3]; simp)
  rw [Nat.pow_zero, Nat.mod_eq_of_lt (show 1 < P by omega)] at d1
  exact ⟨a2, d1, fun i j h x1 x2 x3 => by rw [d2 i j h x1 x2 x3, tim_eq rfl]⟩
/-- BESIDE as told -/
def BN (P E g : Nat) (aN : Nat → Int32) : Prop := ∀ i j, i < 12 → j < 12 → aN (12 * i + j) = nI (bes P E g i j)
theorem takeGenerator_ok {P E g : Nat} (hV : Vd P E g) (zg : Int32) (aW aN aF : Nat → Int32) : ∃ aW' aN' aF', f_X0_takeGenerator (nI P) (nI E) (nI ((P - 1) / E)) zg aW aN aF (nI g) = some (nI g, aW', aN', aF') ∧ PW P g aW' ∧ BN P E g aN' ∧ TF P E g aF' := by
  have hb := hV.bd
  obtain ⟨aW', e1, h1⟩ := findPowers_ok hV.1 hV.2.2.2.2 hb.2.2.2.2.2 aW
  obtain ⟨aN', e2, h2⟩ := findNeighbours_ok hV h1 aN
  obtain ⟨aF', e3, h3⟩ := findFactors_ok hV h1 aF
  refine ⟨aW', aN', aF', ?_, h1, h2, h3⟩
  unfold f_X0_takeGenerator
  rw [e1, Option.bind_some, e2, Option.bind_some, e3, Option.bind_some]
theorem lp_r14 {P E x : Nat} (hP1 : 1 ≤ P) (hP2 : P ≤ 61) (hE : E ≤ 12) (hx : x < P) {KK : (Nat → Int32) → Int32 → Option (Nat → Int32)} (aR : Nat → Int32) : ∀ (fu k : Nat), k ≤ E → E - k < fu →
    f_X0_findRaised_L14 (nI P) (nI E) KK fu aR (nI x) (nI (x ^ k % P)) (nI k) = KK (upd aR x (nI (x ^ E % P))) (nI x + 1) := by
  intro fu
  induction fu with
  | zero => intro k h1 h2; exact absurd h2 (Nat.not_lt_zero _)
  | succ fu ih =>
    intro k h1 h2
    have hm : x ^ k % P < P := Nat.mod_lt _ (by omega)
    rw [f_X0_findRaised_L14]
    rcases Nat.lt_or_ge k E with q | q
    · rw [if_neg (q_nle (by omega) (by omega) q), if_neg (q_ne0 (by omega) (by omega)), pk_mul, q_rem (by have := Nat.mul_le_mul (Nat.le_of_lt hm) (Nat.le_of_lt hx); have : P * P ≤ 61 * 61 := Nat.mul_le_mul hP2 hP2; omega) (by omega) (by omega), q_step, q_s]
      exact ih (k + 1) (by omega) (by omega)
    · rw [if_pos (q_le (by omega) (by omega) q), if_pos (inb_t (by omega) (by omega)), nI_clamp (by omega), show k = E by omega]
theorem lp_r2 {P E : Nat} (hP1 : 2 ≤ P) (hP2 : P ≤ 61) (hE : E ≤ 12) : ∀ (fu x : Nat) (aR : Nat → Int32), x ≤ P → P - x < fu → (∀ y, y < x → aR y = nI (y ^ E % P)) →
    ∃ aR', f_X0_findRaised_L2 (nI P) (nI E) fu aR (nI x) = some aR' ∧ ∀ y, y < P → aR' y = nI (y ^ E % P) := by
  intro fu
  induction fu with
  | zero => intro x aR h1 h2; exact absurd h2 (Nat.not_lt_zero _)
  | succ fu ih =>
    intro x aR h1 h2 hA
    rw [f_X0_findRaised_L2]
    rcases Nat.lt_or_ge x P with q | q
    · have e := lp_r14 (E := E) (KK := fun w0 w1 => f_X0_findRaised_L2 (nI P) (nI E) fu w0 w1) (show 1 ≤ P by omega) hP2 hE q aR FU 0 (Nat.zero_le _) (by show _ < 2000; omega)
      rw [Nat.pow_zero, Nat.mod_eq_of_lt (show 1 < P by omega)] at e
      rw [if_neg (q_nle (by omega) (by omega) q), show (1 : Int32) = nI 1 from rfl, show (0 : Int32) = nI 0 from rfl, e]
      show ∃ aR', f_X0_findRaised_L2 _ _ _ _ (nI x + 1) = _ ∧ _
      rw [q_s]
      refine ih (x + 1) _ (by omega) (by omega) (fun y hy => ?_)
      by_cases he : y = x
      · rw [he, pk_us]
      · rw [pk_un he]
        exact hA y (by omega)
    · rw [if_pos (q_le (by omega) (by omega) q)]
      exact ⟨aR, rfl, fun y hy => hA y (by omega)⟩
theorem findRaised_ok {P E : Nat} (hP1 : 2 ≤ P) (hP2 : P ≤ 61) (hE : E ≤ 12) (aR : Nat → Int32) : ∃ aR', f_X0_findRaised (nI P) (nI E) aR = some aR' ∧ ∀ y, y < P → aR' y = nI (y ^ E % P) :=
  lp_r2 hP1 hP2 hE FU 0 aR (Nat.zero_le _) (by show _ < 2000; omega) (fun y h => absurd h (Nat.not_lt_zero y))
def gensTo (P n : Nat) : List Nat := (List.range n).filter (fun x => isG P x)
theorem gensTo_s (P n : Nat) : gensTo P (n + 1) = gensTo P n ++ (if isG P n then [n] else []) := by
  unfold gensTo
  rw [List.range_succ, List.filter_append]
  congr 1
  by_cases h : isG P n <;> simp [h]
theorem gensTo_le (P n : Nat) : (gensTo P n).length ≤ n := by
  have h := List.length_filter_le (fun x => isG P x) (List.range n)
  rw [List.length_range] at h
  exact h
theorem q_getD_app {α : Type} {l l2 : List α} {k : Nat} {d : α} (h : k < l.length) : (l ++ l2).getD k d = l.getD k d := by
  rw [List.getD_eq_getElem?_getD, List.getD_eq_getElem?_getD, List.getElem?_append_left h]
theorem lp_gens {P : Nat} (hP : P ∈ prs) : ∀ (fu x : Nat) (aG : Nat → Int32), x ≤ P → P - x < fu → (∀ k, k < (gensTo P x).length → aG k = nI ((gensTo P x).getD k 0)) →
    ∃ aG', f_X0_findGenerators_L7 (nI P) fu (nI (gensTo P x).length) aG (nI x) = some (nI (gens P).length, aG') ∧ ∀ k, k < (gens P).length → aG' k = nI ((gens P).getD k 0) := by
  have hb := prs_bd hP
  intro fu
  induction fu with
  | zero => intro x aG h1 h2; exact absurd h2 (Nat.not_lt_zero _)
  | succ fu ih =>
    intro x aG h1 h2 hA
    rw [f_X0_findGenerators_L7]
    rcases Nat.lt_or_ge x P with q | q
    · have hl := gensTo_le P x
      rw [if_neg (q_nle (by omega) (by omega) q), gen4 P hP x q, Option.bind_some]
      have hs := gensTo_s P x
      by_cases hg : isG P x = true
      · rw [if_pos hg] at hs
        rw [if_pos hg, if_neg (by decide), if_pos (inb_t (by omega) (by omega)), nI_clamp (by omega), q_s, q_s]
        have hlen : (gensTo P (x + 1)).length = (gensTo P x).length + 1 := by rw [hs]; simp
        rw [← hlen]
        refine ih (x + 1) _ (by omega) (by omega) (fun k hk => ?_)
        by_cases he : k = (gensTo P x).length
        · rw [he, pk_us, hs]
          simp
        · rw [pk_un he, hA k (by omega), hs, q_getD_app (by omega)]
      · rw [if_neg hg] at hs
        rw [if_neg hg, if_pos rfl, q_s, ← show gensTo P (x + 1) = gensTo P x from by rw [hs, List.append_nil]]
        refine ih (x + 1) _ (by omega) (by omega) (fun k hk => ?_)
        rw [hs, List.append_nil] at hk ⊢
        exact hA k hk
    · rw [if_pos (q_le (by omega) (by omega) q)]
      obtain rfl : x = P := by omega
      exact ⟨aG, rfl, hA⟩
theorem findGenerators_ok {P : Nat} (hP : P ∈ prs) (zn : Int32) (aG : Nat → Int32) : ∃ aG', f_X0_findGenerators (nI P) zn aG = some (nI (gens P).length, aG') ∧ ∀ k, k < (gens P).length → aG' k = nI ((gens P).getD k 0) := by
  have hb := prs_bd hP
  have e : gensTo P 1 = [] := by
    rw [gensTo_s]
    have h0 : isG P 0 = false := by unfold isG; simp
    simp [h0, gensTo]
  have h := lp_gens hP FU 1 aG (by omega) (by show _ < 2000; omega) (by rw [e]; intro k hk; exact absurd hk (Nat.not_lt_zero k))
  rw [e] at h
  exact h
