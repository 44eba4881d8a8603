/-! RAISE, NORM, TRACE -/
theorem ovD0 (v : Int64) : ovD 0 v = decide (v = -9223372036854775808) := by
  unfold ovD
  rw [Int64.zero_xor, Int64.zero_xor, Int64.zero_sub]
  have h2 := Int64.le_toInt v
  have h3 := Int64.toInt_lt v
  have e1 : (-9223372036854775808 : Int64).toInt = -9223372036854775808 := by decide
  have e0 : (0 : Int64).toInt = 0 := by decide
  by_cases h : v = -9223372036854775808
  · subst h
    decide
  · have h1 : v.toInt ≠ -9223372036854775808 := fun q => h (Int64.toInt_inj.mp (by rw [q, e1]))
    rw [decide_eq_false h]
    by_cases g : v < 0
    · have g2 : ¬ (-v) < 0 := by
        rw [Int64.lt_iff_toInt_lt, Int64.toInt_neg, e0]
        rw [Int64.lt_iff_toInt_lt, e0] at g
        rw [Int.bmod_eq_of_le (by omega) (by omega)]
        omega
      rw [decide_eq_false g2, Bool.and_false]
    · rw [decide_eq_false g, Bool.false_and]
theorem grow_sim {P E g r1 : Nat} (hV : Vd P E g) (h1 : r1 ≠ 29) (k : Int32) {a v : Nat → Int64} {aF bPo bTb : Nat → Int32} (hF : TF P E g aF) (hW : PW P g bPo) (hT : TB P E g bTb) (ztc : Int32) (aTs aTn aOs aOn bOs bOn bSo bNu : Nat → Int32) (ytr : Int32) {M : Nat → Nat → Int64} {wMa : Nat → Int64} (wPr : Nat → Int64) (hv : MR E 30 M v) (ha : MR E r1 M a) (hv5 : FR E 0 wMa v) (ha5 : FR E 1 wMa a) :
    (∃ ztc' aTs' aTn' aOs' aOn' M' bSo' bNu' ytr' wMa' wPr', f_X2_grow (nI E) aF ztc aTs aTn 0 aOs aOn M r1 k = some (0, ztc', aTs', aTn', 0, aOs', aOn', M') ∧ f_X5_multiplies (nI P) (nI E) bPo bTb (upd bOs 0 5) (upd bOn 0 k) 1 bSo bNu ytr 0 wMa wPr 0 1 = some (bSo', bNu', ytr', 1, wMa', wPr') ∧ RelT ztc' aTs' aTn' 0 bSo' bNu' ytr' ∧ ∀ r, r ≠ 29 → M' r = M r) ∨
    (∃ aOs' aOn' M' wMa' wPr' v', f_X2_grow (nI E) aF ztc aTs aTn 0 aOs aOn M r1 k = some (1, ztc, aTs, aTn, 0, aOs', aOn', M') ∧ f_X5_multiplies (nI P) (nI E) bPo bTb (upd bOs 0 5) (upd bOn 0 k) 1 bSo bNu ytr 0 wMa wPr 0 1 = some (bSo, bNu, ytr, 0, wMa', wPr') ∧ MR E 30 M' v' ∧ FR E 0 wMa' v' ∧ (∀ r, r ≠ 29 → r ≠ 30 → M' r = M r) ∧ FO E 0 wMa wMa') := by
  have e0 : f_X3_enter 0 aOs aOn 5 k = some (1, upd aOs 0 5, upd aOn 0 k) := enter_ok (o := 0) (by decide) aOs aOn 5 k
  rcases multiply_sim (r1 := 30) (r2 := r1) (r3 := 30) (ra := 0) (rb := 1) (o := 1) hV (by decide) h1 (by decide) (by decide) (by decide) (by decide) hF hW hT ztc aTs aTn ((OP.zero aOs aOn bOs bOn).put 5 k) bSo bNu ytr wPr hv ha hv5 ha5 with ⟨ztc', aTs', aTn', M', bSo', bNu', ytr', wMa', wPr', e2, e3, g3, g4⟩ | ⟨M', wMa', wPr', v', e2, e3, g3, g4, g5, g6⟩
  · refine Or.inl ⟨ztc', aTs', aTn', upd aOs 0 5, upd aOn 0 k, M', bSo', bNu', ytr', wMa', wPr', ?_, e3, g3, g4⟩
    unfold f_X2_grow
    refine (bind_of e0 _).trans ?_
    refine (bind_of e2 _).trans ?_
    rfl
  · refine Or.inr ⟨upd aOs 0 5, upd aOn 0 k, M', wMa', wPr', v', ?_, e3, g3, g4, g5, g6⟩
    unfold f_X2_grow
    refine (bind_of e0 _).trans ?_
    refine (bind_of e2 _).trans ?_
    refine (if_neg (show ¬ (1 : Int32) = 0 by decide)).trans ?_
    exact bind_of (show f_X3_leave (nI 1) = some 0 from leave_ok (o := 0) (by decide)) _
theorem lp_ra {P E g s u n : Nat} (hV : Vd P E g) (hs : s < 4) (hu : u < 4) (hn : n ≤ 40) (v1 : Int32) {a : Nat → Int64} {aF bPo bTb : Nat → Int32} (hF : TF P E g aF) (hW : PW P g bPo) (hT : TB P E g bTb) (ztc : Int32) (aTs aTn bSo bNu : Nat → Int32) (ytr : Int32) (wSh : Nat → Int64) (M0 : Nat → Nat → Int64) (ha : MR E s M0 a) : ∀ (fu k : Nat) (aOs aOn bOs bOn : Nat → Int32) (yop : Int32) (M : Nat → Nat → Int64) (wMa wPr v : Nat → Int64), k ≤ n → n - k < fu → MR E 30 M v → FR E 0 wMa v → FR E 1 wMa a → (∀ r, r ≠ 29 → r ≠ 30 → M r = M0 r) →
    (∃ ztc' aTs' aTn' aOs' aOn' M' bOs' bOn' yop' bSo' bNu' ytr' wMa' wPr', f_X2_multiplyOften_L11 (nI E) aF s (nI n) u fu ztc aTs aTn 0 aOs aOn M (nI k) = some (0, ztc', aTs', aTn', 0, aOs', aOn', M') ∧ f_X5_raise_L50 (nI P) (nI E) bPo bTb v1 (nI n) (nI u) fu wSh bOs bOn yop bSo bNu ytr 0 wMa wPr (nI k) = some (-9, wSh, bOs', bOn', yop', bSo', bNu', ytr', 1, wMa', wPr') ∧ RelT ztc' aTs' aTn' 0 bSo' bNu' ytr' ∧ ∀ r, r ≠ 29 → r ≠ 30 → M' r = M0 r) ∨
    (∃ aOs' aOn' M' wSh' bOs' bOn' yop' wMa' wPr' v', f_X2_multiplyOften_L11 (nI E) aF s (nI n) u fu ztc aTs aTn 0 aOs aOn M (nI k) = some (1, ztc, aTs, aTn, 0, aOs', aOn', M') ∧ f_X5_raise_L50 (nI P) (nI E) bPo bTb v1 (nI n) (nI u) fu wSh bOs bOn yop bSo bNu ytr 0 wMa wPr (nI k) = some (1, wSh', bOs', bOn', yop', bSo, bNu, ytr, 0, wMa', wPr') ∧ MR E u M' v' ∧ FR E u wSh' v' ∧ FO E u wSh wSh' ∧ ∀ r, r ≠ 29 → r ≠ 30 → r ≠ u → M' r = M0 r) := by
  have hbd := hV.bd
  intro fu
  induction fu with
  | zero => intro k _ _ _ _ _ _ _ _ _ g1 g2; exact absurd g2 (Nat.not_lt_zero _)
  | succ fu ih =>
    intro k aOs aOn bOs bOn yop M wMa wPr v g1 g2 hv hv5 ha5 hM
    rw [f_X2_multiplyOften_L11, f_X5_raise_L50]
    rcases Nat.lt_or_ge k n with q | q
    · have n1 : ¬ nI n ≤ nI k := q_nle (by omega) (by omega) q
      rw [if_neg n1, if_neg n1, if_pos rfl, opens_ok (o := 0) (by decide) bOs bOn 5 (nI k) |> fun e => (show f_X5_opens bOs bOn 0 5 (nI k) = _ from e)]
      rcases grow_sim (r1 := s) hV (by omega) (nI k) hF hW hT ztc aTs aTn aOs aOn bOs bOn bSo bNu ytr wPr hv (fun h hh => by rw [hM s (by omega) (by omega)]; exact ha h hh) hv5 ha5 with ⟨ztc', aTs', aTn', aOs', aOn', M', bSo', bNu', ytr', wMa', wPr', e2, e3, g3, g4⟩ | ⟨aOs', aOn', M', wMa', wPr', v', e2, e3, g3, g4, g5, g6⟩
      · obtain ⟨fu2, rfl⟩ : ∃ fu2, fu = fu2 + 1 := ⟨fu - 1, by omega⟩
        refine Or.inl ⟨ztc', aTs', aTn', aOs', aOn', M', upd bOs 0 5, upd bOn 0 (nI k), 1, bSo', bNu', ytr', wMa', wPr', ?_, ?_, g3, fun r hr hr2 => (g4 r hr).trans (hM r hr hr2)⟩
        · rw [e2]; rfl
        · rw [Option.bind_some]
          refine (bind_of e3 _).trans ?_
          show f_X5_raise_L50 _ _ _ _ _ _ _ (fu2 + 1) _ _ _ _ _ _ _ _ _ _ _ = _
          rw [f_X5_raise_L50]
          by_cases c : nI n ≤ nI k + 1
          · rw [if_pos c]; rfl
          · rw [if_neg c]; rfl
      · have e4 : ∀ F : (Int32 × Int32 × (Nat → Int32) × (Nat → Int32) × Int32 × (Nat → Int32) × (Nat → Int32) × (Nat → Nat → Int64)) → Option (Int32 × Int32 × (Nat → Int32) × (Nat → Int32) × Int32 × (Nat → Int32) × (Nat → Int32) × (Nat → Nat → Int64)), (f_X2_grow (nI E) aF ztc aTs aTn 0 aOs aOn M s (nI k)).bind F = F (1, ztc, aTs, aTn, 0, aOs', aOn', M') := fun F => bind_of e2 F
        rw [e4, Option.bind_some]
        have e5 := ih (k + 1) aOs' aOn' (upd bOs 0 5) (upd bOn 0 (nI k)) 1 M' wMa' wPr' v' (by omega) (by omega) g3 g4 (ha5.keep (by omega) g6 (by decide)) (fun r hr hr2 => (g5 r hr hr2).trans (hM r hr hr2))
        rw [← q_s] at e5
        have e6 : ∀ z, (f_X5_raise_L50 (nI P) (nI E) bPo bTb v1 (nI n) (nI u) fu wSh (upd bOs 0 5) (upd bOn 0 (nI k)) 1 bSo bNu ytr 0 wMa' wPr' (nI k + 1) = some z) → ((f_X5_multiplies (nI P) (nI E) bPo bTb (upd bOs 0 5) (upd bOn 0 (nI k)) 1 bSo bNu ytr 0 wMa wPr 0 1).bind fun z6 => f_X5_raise_L50 (nI P) (nI E) bPo bTb v1 (nI n) (nI u) fu wSh (upd bOs 0 5) (upd bOn 0 (nI k)) 1 z6.1 z6.2.1 z6.2.2.1 z6.2.2.2.1 z6.2.2.2.2.1 z6.2.2.2.2.2 (nI k + 1)) = some z := fun z hz => (bind_of e3 _).trans hz
        rcases e5 with ⟨ztc', aTs', aTn', aOs2, aOn2, M2, bOs', bOn', yop', bSo', bNu', ytr', wMa2, wPr2, b1, b2, b3, b4⟩ | ⟨aOs2, aOn2, M2, wSh', bOs', bOn', yop', wMa2, wPr2, v2, b1, b2, b3, b4, b5, b6⟩
        · exact Or.inl ⟨ztc', aTs', aTn', aOs2, aOn2, M2, bOs', bOn', yop', bSo', bNu', ytr', wMa2, wPr2, b1, e6 _ b2, b3, b4⟩
        · exact Or.inr ⟨aOs2, aOn2, M2, wSh', bOs', bOn', yop', wMa2, wPr2, v2, b1, e6 _ b2, b3, b4, b5, b6⟩
    · have n1 : nI n ≤ nI k := q_le (by omega) (by omega) q
      obtain ⟨wSh', e4, g7, g8⟩ := lays_ok (by omega) hu wSh hv5
      rw [if_pos n1, if_pos n1, copyRow_ok (show u ≠ 30 by omega), e4]
      refine Or.inr ⟨_, _, _, wSh', _, _, _, _, _, v, rfl, rfl, fun h hh => ?_, g7, g8, fun r hr hr2 hr3 => by rw [up_n _ _ hr3]; exact hM r hr hr2⟩
      rw [up_s, cpr_in (by omega)]
      exact hv h hh

