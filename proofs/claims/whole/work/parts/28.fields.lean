/-! FIELD, UNDO, the beginning -/
theorem g0_least : ∀ P ∈ prs, ∀ y, y < g0 P → isG P y = false := by decide +kernel
theorem lp_b41 {P E g : Nat} (v1 v2 : Int32) (bPo bTb : Nat → Int32) : ∀ (fu k : Nat) (wSh : Nat → Int64), k ≤ 48 → 48 - k < fu → (∀ i, i < k → wSh i = 0) →
    ∃ wSh', f_X5_begins_L41 v1 v2 fu (nI P) (nI E) (nI g) bPo bTb wSh (nI k) = ((f_X5_findsClasses (nI P) (nI E) (nI g) bPo bTb).bind fun z2 => some (nI P, nI E, nI g, z2.1, z2.2, wSh')) ∧ ∀ i, i < 48 → wSh' i = 0 := by
  intro fu
  induction fu with
  | zero => intro k wSh h1 h2; exact absurd h2 (Nat.not_lt_zero _)
  | succ fu ih =>
    intro k wSh h1 h2 hA
    rw [f_X5_begins_L41]
    rcases Nat.lt_or_ge k 48 with q | q
    · have n1 : ¬ (48 : Int32) ≤ nI k := q_nle (a := 48) (by omega) (by omega) q
      rw [if_neg n1, if_pos (inb_t q (by omega)), nI_clamp (by omega), q_s]
      refine ih (k + 1) _ (by omega) (by omega) (fun i hi => ?_)
      by_cases e : i = k
      · rw [e, vL_s]
      · rw [vL_n e]
        exact hA i (by omega)
    · rw [if_pos (show (48 : Int32) ≤ nI k from q_le (a := 48) (by omega) (by omega) q)]
      exact ⟨wSh, rfl, fun i hi => hA i (by omega)⟩
theorem lp_b15 {P E : Nat} (hP : P ∈ prs) (v1 v2 : Int32) (bPo bTb : Nat → Int32) (wSh : Nat → Int64) : ∀ (fu y : Nat), 1 ≤ y → y ≤ g0 P → g0 P - y < fu →
    f_X5_begins_L15 v1 v2 fu (nI P) (nI E) (nI y) bPo bTb wSh = f_X5_begins_L41 v1 v2 FU (nI P) (nI E) (nI (g0 P)) bPo bTb wSh 0 := by
  have hg := g0_ok hP
  have hgP : g0 P < P := by
    unfold isG at hg
    simp only [Bool.and_eq_true, decide_eq_true_eq] at hg
    exact hg.1.2
  intro fu
  induction fu with
  | zero => intro y h0 h1 h2; exact absurd h2 (Nat.not_lt_zero _)
  | succ fu ih =>
    intro y h0 h1 h2
    rw [f_X5_begins_L15, gen5 P hP y (by omega) h0, Option.bind_some, pu_if]
    by_cases e : y = g0 P
    · rw [e, hg, if_pos rfl]
    · rw [g0_least P hP y (by omega), if_neg (by decide), q_s]
      exact ih (y + 1) (by omega) (by omega) (by omega)
theorem begins_ok {P E : Nat} (hV : Vd P E (g0 P)) (yp ye yg : Int32) (bPo bTb : Nat → Int32) (wSh : Nat → Int64) : ∃ bPo' bTb' wSh', f_X5_begins yp ye yg bPo bTb wSh (nI P) (nI E) = some (nI P, nI E, nI (g0 P), bPo', bTb', wSh') ∧ PW P (g0 P) bPo' ∧ TB P E (g0 P) bTb' ∧ ∀ k, k < 48 → wSh' k = 0 := by
  have hb := hV.bd
  obtain ⟨bP', bT', e2, g4, g5⟩ := findsClasses_ok hV bPo bTb
  obtain ⟨wSh', e1, h1⟩ := lp_b41 (P := P) (E := E) (g := g0 P) (nI P) (nI E) bPo bTb FU 0 wSh (Nat.zero_le _) (by show _ < 2000; omega) (fun h hh => absurd hh (Nat.not_lt_zero _))
  refine ⟨bP', bT', wSh', ?_, g4, g5, h1⟩
  unfold f_X5_begins
  refine (lp_b15 hV.1 (nI P) (nI E) bPo bTb wSh FU 1 (Nat.le_refl 1) hb.2.2.2.2.1 (by show _ < 2000; omega)).trans ?_
  refine e1.trans ?_
  rw [e2]
  rfl
theorem lp_f52 {zp ze zf zg zn v1 v2 v3 : Int32} {aG aW aR aN aF : Nat → Int32} {lC lS lP lX : Nat → Int64} (M0 : Nat → Nat → Int64) : ∀ (fu k : Nat) (M : Nat → Nat → Int64), k ≤ 4 → 4 - k < fu → (∀ s i, s < k → i < 12 → M s i = 0) → (∀ r, 4 ≤ r → M r = M0 r) →
    ∃ M', f_X4_field_L52 v1 v2 fu zp ze zf zg zn aG aW aR aN aF lC lS lP lX M v3 (nI k) = some (v3, zp, ze, zf, zg, zn, aG, aW, aR, aN, aF, lC, lS, lP, lX, M') ∧ (∀ s i, s < 4 → i < 12 → M' s i = 0) ∧ ∀ r, 4 ≤ r → M' r = M0 r := by
  intro fu
  induction fu with
  | zero => intro k M h1 h2; exact absurd h2 (Nat.not_lt_zero _)
  | succ fu ih =>
    intro k M h1 h2 hA hB
    rw [f_X4_field_L52]
    rcases Nat.lt_or_ge k 4 with q | q
    · have n1 : ¬ (4 : Int32) ≤ nI k := q_nle (a := 4) (by omega) (by omega) q
      rw [if_neg n1, if_pos (inb_t q (by omega)), nI_clamp (by omega), Nat.zero_add]
      unfold f_X4_setWhole
      rw [Option.bind_some, q_s]
      refine ih (k + 1) _ (by omega) (by omega) (fun s i hs hi => ?_) (fun r hr => by rw [up_n _ _ (by omega)]; exact hB r hr)
      by_cases e : s = k
      · rw [e, up_s, swr_in hi]
        decide
      · rw [up_n _ _ e]
        exact hA s i (by omega) hi
    · rw [if_pos (show (4 : Int32) ≤ nI k from q_le (a := 4) (by omega) (by omega) q)]
      exact ⟨M, rfl, fun s i hs hi => hA s i (by omega) hi, hB⟩
theorem op4_small {v : Int32} (h : v < 3 ∨ 61 < v) : f_X4_isOddPrime v = some 0 := by
  unfold f_X4_isOddPrime
  rcases h with h | h
  · rw [if_pos h]
  · by_cases h1 : v < 3
    · rw [if_pos h1]
    · rw [if_neg h1, if_pos h]
set_option maxRecDepth 4000 in
theorem op_field {zp : Int32} {ze : Int32} {zf : Int32} {zg : Int32} {zn : Int32} {aG : Nat → Int32} {aW : Nat → Int32} {aR : Nat → Int32} {aN : Nat → Int32} {aF : Nat → Int32} {lC : Nat → Int64} {lS : Nat → Int64} {lP : Nat → Int64} {lX : Nat → Int64} {ztc : Int32} {aTs : Nat → Int32} {aTn : Nat → Int32} {zoc : Int32} {aOs : Nat → Int32} {aOn : Nat → Int32} {aTp : Nat → Int32} {zln : Int32} {zpl : Int32} {zfa : Int32} {aSz : Nat → Int32} {zit : Int32} {zip : Int32} {zic : Int32} {zig : Int32} {M : Nat → Nat → Int64} {yp : Int32} {ye : Int32} {yg : Int32} {bPo : Nat → Int32} {bTb : Nat → Int32} {wSh : Nat → Int64} {wTe : Nat → Int64} {wNx : Nat → Int64} {bOs : Nat → Int32} {bOn : Nat → Int32} {yop : Int32} {bSo : Nat → Int32} {bNu : Nat → Int32} {ytr : Int32} {yiw : Int32} {wMa : Nat → Int64} {wPr : Nat → Int64} {bTp : Nat → Int32} {yln : Int32} {ypl : Int32} {yfa : Int32} {wLi : Nat → Int64} {bSi : Nat → Int32} {yhp : Int32} {yhe : Int32} {yhg : Int32} {wHs : Nat → Int64} {yhi : Int32} (h : Rel zp ze zf zg zn aG aW aR aN aF lC lS lP lX ztc aTs aTn zoc aOs aOn aTp zln zpl zfa aSz zit zip zic zig M yp ye yg bPo bTb wSh wTe wNx bOs bOn yop bSo bNu ytr yiw wMa wPr bTp yln ypl yfa wLi bSi yhp yhe yhg wHs yhi) (v1 : Int32) (v2 : Int32) : ∃ z1 z2, f_X4_field zp ze zf zg zn aG aW aR aN aF lC lS lP lX M v1 v2 = some z1 ∧ f_X5_field yp ye yg bPo bTb wSh v1 v2 = some z2 ∧ z1.1 = z2.1 ∧ Rel z1.2.1 z1.2.2.1 z1.2.2.2.1 z1.2.2.2.2.1 z1.2.2.2.2.2.1 z1.2.2.2.2.2.2.1 z1.2.2.2.2.2.2.2.1 z1.2.2.2.2.2.2.2.2.1 z1.2.2.2.2.2.2.2.2.2.1 z1.2.2.2.2.2.2.2.2.2.2.1 z1.2.2.2.2.2.2.2.2.2.2.2.1 z1.2.2.2.2.2.2.2.2.2.2.2.2.1 z1.2.2.2.2.2.2.2.2.2.2.2.2.2.1 z1.2.2.2.2.2.2.2.2.2.2.2.2.2.2.1 ztc aTs aTn zoc aOs aOn aTp zln zpl zfa aSz zit zip zic zig z1.2.2.2.2.2.2.2.2.2.2.2.2.2.2.2 z2.2.1 z2.2.2.1 z2.2.2.2.1 z2.2.2.2.2.1 z2.2.2.2.2.2.1 z2.2.2.2.2.2.2 wTe wNx bOs bOn yop bSo bNu ytr yiw wMa wPr bTp yln ypl yfa wLi bSi yhp yhe yhg wHs yhi := by
  obtain ⟨hK, hS, hT, hP, hL, hI⟩ := h
  obtain ⟨P, E, g, hV, ⟨rfl, rfl, rfl, rfl, rfl⟩, hG, hW, hRa, hN, hF, hC, ⟨rfl, rfl, rfl⟩, hPo, hTb⟩ := hK
  have hK : RelK (nI P) (nI E) (nI ((P - 1) / E)) (nI g) (nI (gens P).length) aG aW aR aN aF lC (nI P) (nI E) (nI g) bPo bTb := ⟨P, E, g, hV, ⟨rfl, rfl, rfl, rfl, rfl⟩, hG, hW, hRa, hN, hF, hC, ⟨rfl, rfl, rfl⟩, hPo, hTb⟩
  have hb := hV.bd
  unfold f_X4_field f_X5_field
  rw [pu_in]
  have t3 : (3 : Int64).toInt = 3 := by decide
  have t61 : (61 : Int64).toInt = 61 := by decide
  have i3 : (3 : Int32).toInt = 3 := by decide
  have i61 : (61 : Int32).toInt = 61 := by decide
  have t1 : (1 : Int64).toInt = 1 := by decide
  have t12 : (12 : Int64).toInt = 12 := by decide
  have i1 : (1 : Int32).toInt = 1 := by decide
  have i12 : (12 : Int32).toInt = 12 := by decide
  by_cases h0 : 3 ≤ v1.toInt ∧ v1.toInt ≤ 61
  · have h1 : ((3 : Int64) ≤ v1.toInt64 ∧ v1.toInt64 ≤ 61) := by
      rw [Int64.le_iff_toInt_le, Int64.le_iff_toInt_le, Int32.toInt_toInt64, t3, t61]
      exact h0
    obtain ⟨Q, hQ, rfl⟩ := inb_ex (v := v1) (n := 62) (inb_iff.mpr (by omega)) (by decide)
    rw [nI_toInt (by omega)] at h0
    rw [if_pos h1, Option.bind_some, if_neg (show ¬ (1 : Int32) = 0 by decide), prime4 Q hQ, prime5 Q hQ (by omega), Option.bind_some, Option.bind_some]
    by_cases hQP : Q ∈ prs
    · simp only [if_pos hQP, if_neg (show ¬ (1 : Int32) = 0 by decide), pu_in]
      by_cases h2 : 1 ≤ v2.toInt ∧ v2.toInt ≤ 12
      · have h3 : ((1 : Int64) ≤ v2.toInt64 ∧ v2.toInt64 ≤ 12) := by
          rw [Int64.le_iff_toInt_le, Int64.le_iff_toInt_le, Int32.toInt_toInt64, t1, t12]
          exact h2
        obtain ⟨F, hF, rfl⟩ := inb_ex (v := v2) (n := 13) (inb_iff.mpr (by omega)) (by decide)
        rw [nI_toInt (by omega)] at h2
        have n1 : ¬ nI F < 1 := q_nlt (b := 1) (by omega) (by omega) (by omega)
        have n2 : ¬ 12 < nI F := q_nlt (a := 12) (by omega) (by omega) (by omega)
        have n3 : ¬ nI F = 0 := q_ne0 (by omega) (by omega)
        rw [if_pos h3, if_neg n1, if_neg n2, if_neg n3, Option.bind_some, if_neg (show ¬ (1 : Int32) = 0 by decide), if_neg n3, q_pred (by omega), q_rem (by omega) (by omega) (by omega)]
        by_cases hd : (Q - 1) % F = 0
        · have hz : nI ((Q - 1) % F) = 0 := by rw [hd]; rfl
          rw [if_pos hz, if_pos hz]
          obtain ⟨aG', aW', aR', aN', aF', lC', lS', lP', lX', e1, -, r1, r2, r3, r4, r5, r6⟩ := settle_ok hQP (by omega) (show F ≤ 12 by omega) hd (nI P) (nI E) (nI ((P - 1) / E)) (nI g) (nI (gens P).length) aG aW aR aN aF lC lS lP lX
          have hV2 : Vd Q F (g0 Q) := ⟨hQP, by omega, by omega, hd, g0_ok hQP⟩
          obtain ⟨bP', bT', wSh', e2, g4, g5, g6⟩ := begins_ok hV2 (nI P) (nI E) (nI g) bPo bTb wSh
          obtain ⟨M', e3, m1, m2⟩ := lp_f52 (v1 := nI Q) (v2 := nI F) (v3 := nI P) (zp := nI Q) (ze := nI F) (zf := nI ((Q - 1) / F)) (zg := nI (g0 Q)) (zn := nI (gens Q).length) (aG := aG') (aW := aW') (aR := aR') (aN := aN') (aF := aF') (lC := lC') (lS := lS') (lP := lP') (lX := lX') M FU 0 M (Nat.zero_le _) (by show _ < 2000; omega) (fun s i hs => absurd hs (Nat.not_lt_zero _)) (fun _ _ => rfl)
          rw [e1, e2, Option.bind_some, Option.bind_some]
          refine ⟨_, _, e3, rfl, rfl, ⟨Q, F, g0 Q, hV2, ⟨rfl, rfl, rfl, rfl, rfl⟩, r1, r2, r3, fun i j hi hj => r4 i j (by omega) (by omega), r5, r6, ⟨rfl, rfl, rfl⟩, g4, g5⟩, ?_, hT, hP, relL_M (fun r hr1 hr2 => m2 r hr1) hL, relI_M (fun r hr1 hr2 => m2 r hr1) hI⟩
          refine (relS_iff (show F < 2 ^ 31 by omega) _ _).mpr (fun s i hs hi => ?_)
          exact (m1 s i hs (by omega)).trans (g6 _ (by omega)).symm
        · have hm : (Q - 1) % F < F := Nat.mod_lt _ (by omega)
          have n4 : ¬ nI ((Q - 1) % F) = 0 := q_ne0 (by omega) (by omega)
          rw [if_neg n4, if_neg n4]
          exact ⟨_, _, rfl, rfl, rfl, hK, hS, hT, hP, hL, hI⟩
      · have h3 : ¬ ((1 : Int64) ≤ v2.toInt64 ∧ v2.toInt64 ≤ 12) := by
          rw [Int64.le_iff_toInt_le, Int64.le_iff_toInt_le, Int32.toInt_toInt64, t1, t12]
          exact h2
        rw [if_neg h3, Option.bind_some]
        by_cases h4 : v2 < 1
        · rw [if_pos h4]
          exact ⟨_, _, rfl, rfl, rfl, hK, hS, hT, hP, hL, hI⟩
        · have h5 : 12 < v2 := by
            rw [Int32.lt_iff_toInt_lt] at h4 ⊢
            omega
          rw [if_neg h4, if_pos h5]
          exact ⟨_, _, rfl, rfl, rfl, hK, hS, hT, hP, hL, hI⟩
    · rw [if_neg hQP]
      exact ⟨_, _, rfl, rfl, rfl, hK, hS, hT, hP, hL, hI⟩
  · have h1 : ¬ ((3 : Int64) ≤ v1.toInt64 ∧ v1.toInt64 ≤ 61) := by
      rw [Int64.le_iff_toInt_le, Int64.le_iff_toInt_le, Int32.toInt_toInt64, t3, t61]
      exact h0
    have h2 : v1 < 3 ∨ 61 < v1 := by
      rw [Int32.lt_iff_toInt_lt, Int32.lt_iff_toInt_lt, i3, i61]
      omega
    rw [if_neg h1, op4_small h2]
    exact ⟨_, _, rfl, rfl, rfl, hK, hS, hT, hP, hL, hI⟩
theorem lp_u38 {zit zip zic zig zp ze zf zg zn : Int32} {aG aW aR aN aF : Nat → Int32} {lC lS lP lX : Nat → Int64} (M0 : Nat → Nat → Int64) : ∀ (fu k : Nat) (M : Nat → Nat → Int64), k ≤ 4 → 4 - k < fu → (∀ s i, s < k → i < 12 → M s i = M0 (7 + s) i) → (∀ r, 4 ≤ r → M r = M0 r) →
    ∃ M', f_X4_undo_L38 zit zip zic zig fu zp ze zf zg zn aG aW aR aN aF lC lS lP lX M (nI k) = some (zp, zp, ze, zf, zg, zn, aG, aW, aR, aN, aF, lC, lS, lP, lX, M') ∧ (∀ s i, s < 4 → i < 12 → M' s i = M0 (7 + s) i) ∧ ∀ r, 4 ≤ r → M' r = M0 r := by
  intro fu
  induction fu with
  | zero => intro k M h1 h2; exact absurd h2 (Nat.not_lt_zero _)
  | succ fu ih =>
    intro k M h1 h2 hA hB
    rw [f_X4_undo_L38]
    rcases Nat.lt_or_ge k 4 with q | q
    · have n1 : ¬ (4 : Int32) ≤ nI k := q_nle (a := 4) (by omega) (by omega) q
      have a1 : inb (nI k) 4 = true := inb_t q (by omega)
      simp only [if_neg n1, if_pos a1]
      rw [nI_clamp (by omega), Nat.zero_add, copyRow_ok (by omega), Option.bind_some, q_s]
      refine ih (k + 1) _ (by omega) (by omega) (fun s i hs hi => ?_) (fun r hr => by rw [up_n _ _ (by omega)]; exact hB r hr)
      by_cases e : s = k
      · rw [e, up_s, cpr_in hi, hB _ (by omega)]
      · rw [up_n _ _ e]
        exact hA s i (by omega) hi
    · rw [if_pos (show (4 : Int32) ≤ nI k from q_le (a := 4) (by omega) (by omega) q)]
      exact ⟨M, rfl, fun s i hs hi => hA s i (by omega) hi, hB⟩
theorem bind_of {α β : Type} {o : Option α} {a : α} (h : o = some a) (f : α → Option β) : o.bind f = f a := by rw [h]; rfl
theorem undo5_ok {Q F u : Nat} (hV2 : Vd Q F u) (bPo bTb : Nat → Int32) (wSh wHs : Nat → Int64) (yp ye yg : Int32) : ∃ bPo' bTb', f_X5_undo yp ye yg bPo bTb wSh (nI Q) (nI F) (nI u) wHs 1 = some (nI Q, nI Q, nI F, nI u, bPo', bTb', va_cpy wHs wSh 0 0 48) ∧ PW Q u bPo' ∧ TB Q F u bTb' := by
  obtain ⟨bP', bT', e4, g4, g5⟩ := findsClasses_ok hV2 bPo bTb
  refine ⟨bP', bT', ?_, g4, g5⟩
  unfold f_X5_undo
  rw [if_neg (show ¬ (1 : Int32) = 0 by decide)]
  refine (bind_of e4 _).trans ?_
  rw [if_pos (show cpk 0 0 48 48 48 = true by decide), show (0 : Int32).toNatClampNeg = 0 by decide, show (48 : Int32).toNatClampNeg = 48 by decide]
theorem undo4_ok {Q F u : Nat} (hV2 : Vd Q F u) (zp ze zf zg zn : Int32) (aG aW aR aN aF : Nat → Int32) (lC lS lP lX : Nat → Int64) (M : Nat → Nat → Int64) : ∃ aG' aW' aR' aN' aF' lC' lS' lP' lX' M', f_X4_undo zp ze zf zg zn aG aW aR aN aF lC lS lP lX 1 (nI Q) (nI F) (nI u) M = some (nI Q, nI Q, nI F, nI ((Q - 1) / F), nI u, nI (gens Q).length, aG', aW', aR', aN', aF', lC', lS', lP', lX', M') ∧ RC Q F u (nI Q) (nI F) (nI ((Q - 1) / F)) (nI u) (nI (gens Q).length) aG' aW' aR' aN' aF' lC' ∧ (∀ s i, s < 4 → i < 12 → M' s i = M (7 + s) i) ∧ ∀ r, 4 ≤ r → M' r = M r := by
  obtain ⟨aG', aW', aR', aN', aF', lC', lS', lP', lX', e1, -, r1, r2, r3, r4, r5, r6⟩ := settle_ok hV2.1 hV2.2.1 hV2.2.2.1 hV2.2.2.2.1 zp ze zf zg zn aG aW aR aN aF lC lS lP lX
  obtain ⟨aW2, aN2, aF2, e2, g1, g2, g3⟩ := takeGenerator_ok hV2 (nI (g0 Q)) aW' aN' aF'
  obtain ⟨M', e3, m1, m2⟩ := lp_u38 (zit := 1) (zip := nI Q) (zic := nI F) (zig := nI u) (zp := nI Q) (ze := nI F) (zf := nI ((Q - 1) / F)) (zg := nI u) (zn := nI (gens Q).length) (aG := aG') (aW := aW2) (aR := aR') (aN := aN2) (aF := aF2) (lC := lC') (lS := lS') (lP := lP') (lX := lX') M FU 0 M (Nat.zero_le _) (by show _ < 2000; omega) (fun s i hs => absurd hs (Nat.not_lt_zero _)) (fun _ _ => rfl)
  refine ⟨aG', aW2, aR', aN2, aF2, lC', lS', lP', lX', M', ?_, ⟨⟨rfl, rfl, rfl, rfl, rfl⟩, r1, g1, r3, g2, g3, r6⟩, m1, m2⟩
  unfold f_X4_undo
  rw [if_neg (show ¬ (1 : Int32) = 0 by decide)]
  refine (bind_of e1 _).trans ?_
  refine (bind_of e2 _).trans ?_
  exact e3
set_option maxRecDepth 4000 in
theorem op_undo {zp : Int32} {ze : Int32} {zf : Int32} {zg : Int32} {zn : Int32} {aG : Nat → Int32} {aW : Nat → Int32} {aR : Nat → Int32} {aN : Nat → Int32} {aF : Nat → Int32} {lC : Nat → Int64} {lS : Nat → Int64} {lP : Nat → Int64} {lX : Nat → Int64} {ztc : Int32} {aTs : Nat → Int32} {aTn : Nat → Int32} {zoc : Int32} {aOs : Nat → Int32} {aOn : Nat → Int32} {aTp : Nat → Int32} {zln : Int32} {zpl : Int32} {zfa : Int32} {aSz : Nat → Int32} {zit : Int32} {zip : Int32} {zic : Int32} {zig : Int32} {M : Nat → Nat → Int64} {yp : Int32} {ye : Int32} {yg : Int32} {bPo : Nat → Int32} {bTb : Nat → Int32} {wSh : Nat → Int64} {wTe : Nat → Int64} {wNx : Nat → Int64} {bOs : Nat → Int32} {bOn : Nat → Int32} {yop : Int32} {bSo : Nat → Int32} {bNu : Nat → Int32} {ytr : Int32} {yiw : Int32} {wMa : Nat → Int64} {wPr : Nat → Int64} {bTp : Nat → Int32} {yln : Int32} {ypl : Int32} {yfa : Int32} {wLi : Nat → Int64} {bSi : Nat → Int32} {yhp : Int32} {yhe : Int32} {yhg : Int32} {wHs : Nat → Int64} {yhi : Int32} (h : Rel zp ze zf zg zn aG aW aR aN aF lC lS lP lX ztc aTs aTn zoc aOs aOn aTp zln zpl zfa aSz zit zip zic zig M yp ye yg bPo bTb wSh wTe wNx bOs bOn yop bSo bNu ytr yiw wMa wPr bTp yln ypl yfa wLi bSi yhp yhe yhg wHs yhi) : ∃ z1 z2, f_X4_undo zp ze zf zg zn aG aW aR aN aF lC lS lP lX zit zip zic zig M = some z1 ∧ f_X5_undo yp ye yg bPo bTb wSh yhp yhe yhg wHs yhi = some z2 ∧ z1.1 = z2.1 ∧ Rel z1.2.1 z1.2.2.1 z1.2.2.2.1 z1.2.2.2.2.1 z1.2.2.2.2.2.1 z1.2.2.2.2.2.2.1 z1.2.2.2.2.2.2.2.1 z1.2.2.2.2.2.2.2.2.1 z1.2.2.2.2.2.2.2.2.2.1 z1.2.2.2.2.2.2.2.2.2.2.1 z1.2.2.2.2.2.2.2.2.2.2.2.1 z1.2.2.2.2.2.2.2.2.2.2.2.2.1 z1.2.2.2.2.2.2.2.2.2.2.2.2.2.1 z1.2.2.2.2.2.2.2.2.2.2.2.2.2.2.1 ztc aTs aTn zoc aOs aOn aTp zln zpl zfa aSz zit zip zic zig z1.2.2.2.2.2.2.2.2.2.2.2.2.2.2.2 z2.2.1 z2.2.2.1 z2.2.2.2.1 z2.2.2.2.2.1 z2.2.2.2.2.2.1 z2.2.2.2.2.2.2 wTe wNx bOs bOn yop bSo bNu ytr yiw wMa wPr bTp yln ypl yfa wLi bSi yhp yhe yhg wHs yhi := by
  obtain ⟨hK, hS, hT, hP, hL, hI⟩ := h
  obtain ⟨P, E, g, hV, ⟨rfl, rfl, rfl, rfl, rfl⟩, hG, hW, hRa, hN, hF, hC, ⟨rfl, rfl, rfl⟩, hPo, hTb⟩ := hK
  have hK : RelK (nI P) (nI E) (nI ((P - 1) / E)) (nI g) (nI (gens P).length) aG aW aR aN aF lC (nI P) (nI E) (nI g) bPo bTb := ⟨P, E, g, hV, ⟨rfl, rfl, rfl, rfl, rfl⟩, hG, hW, hRa, hN, hF, hC, ⟨rfl, rfl, rfl⟩, hPo, hTb⟩
  have hb := hV.bd
  obtain ⟨rfl, hi2⟩ := hI
  rcases hi2 with h0 | ⟨h1, Q, F, u, hV2, rfl, rfl, rfl, rfl, rfl, rfl, hH⟩
  · subst h0
    exact ⟨_, _, rfl, rfl, rfl, hK, hS, hT, hP, hL, rfl, Or.inl rfl⟩
  · subst h1
    have hI : RelI 1 (nI Q) (nI F) (nI u) M (nI Q) (nI F) (nI u) wHs 1 := ⟨rfl, Or.inr ⟨rfl, Q, F, u, hV2, rfl, rfl, rfl, rfl, rfl, rfl, hH⟩⟩
    have hb2 := hV2.bd
    obtain ⟨aG', aW', aR', aN', aF', lC', lS', lP', lX', M', e1, ⟨-, r1, r2, r3, r4, r5, r6⟩, m1, m2⟩ := undo4_ok hV2 (nI P) (nI E) (nI ((P - 1) / E)) (nI g) (nI (gens P).length) aG aW aR aN aF lC lS lP lX M
    obtain ⟨bP', bT', e2, g4, g5⟩ := undo5_ok hV2 bPo bTb wSh wHs (nI P) (nI E) (nI g)
    refine ⟨_, _, e1, e2, rfl, ⟨Q, F, u, hV2, ⟨rfl, rfl, rfl, rfl, rfl⟩, r1, r2, r3, fun i j hi hj => r4 i j (by omega) (by omega), r5, r6, ⟨rfl, rfl, rfl⟩, g4, g5⟩, ?_, hT, hP, relL_M (fun r hr1 hr2 => m2 r hr1) hL, relI_M (fun r hr1 hr2 => m2 r hr1) hI⟩
    refine (relS_iff (show F < 2 ^ 31 by omega) _ _).mpr (fun s i hs hi => ?_)
    refine ((m1 s i hs (by omega)).trans (hH s i hs hi)).trans ?_
    show _ = va_cpy wHs wSh 0 0 48 (12 * s + i)
    rw [pk_cpy_in (by omega) (by omega), Nat.sub_zero, Nat.zero_add]

