/-! ROWS, on: turned rows, the image, lists, counts -/
theorem ltz_msb (x : Int32) : x < 0 ↔ x.toBitVec.msb = true := by
  rw [Int32.lt_iff_toInt_lt, BitVec.msb_eq_toInt, decide_eq_true_eq]
  exact Iff.rfl
theorem xor_sg (x y : Int32) (hy : ¬ y < 0) : 0 ≤ (x ^^^ y) ↔ ¬ x < 0 := by
  have e : (0 : Int32) ≤ (x ^^^ y) ↔ ¬ (x ^^^ y) < 0 := by
    rw [Int32.le_iff_toInt_le, Int32.lt_iff_toInt_lt]
    show (0 : Int) ≤ _ ↔ ¬ (_ < (0 : Int))
    omega
  rw [ltz_msb] at hy
  rw [e, ltz_msb, ltz_msb, show (x ^^^ y).toBitVec = x.toBitVec ^^^ y.toBitVec from rfl, BitVec.msb_xor, Bool.eq_false_iff.mpr hy, Bool.xor_false]
theorem neg_rem {x : Int32} {E : Nat} (h1 : 1 ≤ E) (hE : E < 2 ^ 31) (hx : x < 0) : ∃ m : Nat, m < E ∧ (x - x / nI E * nI E).toInt = -(m : Int) := by
  have h2 : x.toInt < 0 := Int32.lt_iff_toInt_lt.mp hx
  have h3 := Int32.le_toInt x
  obtain ⟨n, hn⟩ : ∃ n : Nat, x.toInt = -(n : Int) := ⟨x.toInt.natAbs, by omega⟩
  have hd : n / E * E + n % E = n := Nat.div_add_mod' n E
  have hm : n % E < E := Nat.mod_lt _ h1
  have hq : n / E ≤ n := Nat.div_le_self n E
  have e1 : (x / nI E).toInt = (-((n / E : Nat) : Int)).bmod (2 ^ 32) := by
    rw [Int32.toInt_div, nI_toInt hE, hn, Int.neg_tdiv, Int.natCast_tdiv_eq_ediv]
    rfl
  generalize n / E = w at hd hq e1
  generalize n % E = m at hd hm ⊢
  have e1 : (x / nI E).toInt = -(w : Int) := e1.trans (Int.bmod_eq_of_le (by omega) (by omega))
  have e2 : (x / nI E * nI E).toInt = -((w * E : Nat) : Int) := by
    rw [Int32.toInt_mul, e1, nI_toInt hE, Int.neg_mul, ← Int.natCast_mul]
    exact Int.bmod_eq_of_le (by omega) (by omega)
  refine ⟨m, hm, ?_⟩
  rw [Int32.toInt_sub, e2, hn]
  have e3 : -(n : Int) - -((w * E : Nat) : Int) = -(m : Int) := by omega
  rw [e3]
  exact Int.bmod_eq_of_le (by omega) (by omega)
theorem fm_ok {E : Nat} (h1 : 1 ≤ E) (hE : E ≤ 12) (v : Int32) : ∃ b, b < E ∧ f_MathFloorMod v (nI E) = some (nI b) ∧ ((v - v / nI E * nI E) + nI E) - ((v - v / nI E * nI E) + nI E) / nI E * nI E = nI b := by
  unfold f_MathFloorMod
  have n0 : ¬ nI E = 0 := q_ne0 (by omega) (by omega)
  have np : ¬ nI E < 0 := nI_pos (by omega)
  rw [if_neg n0]
  by_cases hv : v < 0
  · rw [if_neg (fun w => (xor_sg v (nI E) np).mp w hv)]
    obtain ⟨m, hm, e⟩ := neg_rem h1 (by omega) hv
    by_cases h0 : m = 0
    · have e0 : v - v / nI E * nI E = nI 0 := Int32.toInt_inj.mp (by rw [e, h0]; rfl)
      rw [e0, if_pos nI_0, nI_add, q_rem (by omega) (by omega) (by omega), Nat.zero_add, Nat.mod_self]
      exact ⟨0, h1, rfl, rfl⟩
    · have hne : ¬ v - v / nI E * nI E = 0 := fun w => by
        rw [w] at e
        have : (0 : Int32).toInt = 0 := by decide
        omega
      have e0 : v - v / nI E * nI E + nI E = nI (E - m) := by
        refine Int32.toInt_inj.mp ?_
        rw [Int32.toInt_add, e, nI_toInt (by omega), nI_toInt (by omega)]
        have : -(m : Int) + (E : Int) = ((E - m : Nat) : Int) := by omega
        rw [this]
        exact Int.bmod_eq_of_le (by omega) (by omega)
      rw [if_neg hne, e0, q_rem (by omega) (by omega) (by omega), Nat.mod_eq_of_lt (by omega)]
      exact ⟨E - m, by omega, rfl, rfl⟩
  · rw [if_pos ((xor_sg v (nI E) np).mpr hv)]
    obtain ⟨n, hn, rfl⟩ := nI_of hv
    rw [q_rem hn (by omega) (by omega)]
    have hm : n % E < E := Nat.mod_lt _ h1
    rw [nI_add, q_rem (by omega) (by omega) (by omega), Nat.add_mod_right, Nat.mod_mod]
    exact ⟨n % E, hm, rfl, rfl⟩
/-- a row turned by b -/
def tv (E b : Nat) (v : Nat → Int64) : Nat → Int64 := fun j => v ((j + E - b) % E)
theorem md {E b h : Nat} (hb : b < E) (hh : h < E) : (h + b) % E = if h + b < E then h + b else h + b - E := by
  by_cases q : h + b < E
  · rw [if_pos q, Nat.mod_eq_of_lt q]
  · rw [if_neg q, Nat.mod_eq_sub_mod (by omega), Nat.mod_eq_of_lt (by omega)]
theorem md2 {E b j : Nat} (hb : b < E) (hj : j < E) : (j + E - b) % E < E ∧ ((j + E - b) % E + b) % E = j := by
  have h1 : (j + E - b) % E < E := Nat.mod_lt _ (by omega)
  have h2 : (j + E - b) % E = if j + E - b < E then j + E - b else j + E - b - E := by
    by_cases q : j + E - b < E
    · rw [if_pos q, Nat.mod_eq_of_lt q]
    · rw [if_neg q, Nat.mod_eq_sub_mod (by omega), Nat.mod_eq_of_lt (by omega)]
  refine ⟨h1, ?_⟩
  rw [md hb h1, h2]
  split <;> split <;> omega
theorem lp_tu {E r s b : Nat} (hE1 : 1 ≤ E) (hE : E ≤ 12) (hr : r < 40) (hs : s < 4) (hb : b < E) {wSh v : Nat → Int64} (hv : FR E s wSh v) (v3 : Int32) (wMa0 : Nat → Int64) : ∀ (fu k : Nat) (wMa : Nat → Int64), k ≤ E → E - k < fu → (∀ h, h < k → wMa (12 * r + (h + b) % E) = v h) → FO E r wMa0 wMa →
    ∃ wMa', f_X5_turns_L21 (nI E) wSh (nI r) (nI s) v3 fu wMa (nI b) (nI k) = some wMa' ∧ FR E r wMa' (tv E b v) ∧ FO E r wMa0 wMa' := by
  intro fu
  induction fu with
  | zero => intro k wMa h1 h2; exact absurd h2 (Nat.not_lt_zero _)
  | succ fu ih =>
    intro k wMa h1 h2 hA hB
    rw [f_X5_turns_L21]
    rcases Nat.lt_or_ge k E with q | q
    · have n1 : ¬ nI E ≤ nI k := q_nle (by omega) (by omega) q
      have n0 : ¬ nI E = 0 := q_ne0 (by omega) (by omega)
      have hm : (k + b) % E < E := Nat.mod_lt _ (by omega)
      have a1 : inb (nI (12 * s + k)) 48 = true := inb_t (by omega) (by omega)
      have a2 : inb (nI (12 * r + (k + b) % E)) 480 = true := inb_t (by omega) (by omega)
      rw [nI_add, q_rem (by omega) (by omega) (by omega), pu_i12, pu_i12]
      simp only [if_neg n1, if_neg n0, if_pos a1, if_pos a2]
      rw [nI_clamp (by omega), nI_clamp (by omega), q_s, hv k q]
      refine ih (k + 1) _ (by omega) (by omega) (fun h hh => ?_) (hB.put hm _)
      by_cases e : h = k
      · rw [e, vL_s]
      · rw [vL_n ?_]
        · exact hA h (by omega)
        · rw [md hb q, md hb (show h < E by omega)]
          split <;> split <;> omega
    · rw [if_pos (q_le (by omega) (by omega) q)]
      refine ⟨wMa, rfl, fun j hj => ?_, hB⟩
      obtain ⟨h3, h4⟩ := md2 hb hj
      have h5 := hA ((j + E - b) % E) (by omega)
      rw [h4] at h5
      exact h5
theorem turns_ok {E r s b : Nat} (hE1 : 1 ≤ E) (hE : E ≤ 12) (hr : r < 40) (hs : s < 4) (hb : b < E) {wSh v : Nat → Int64} (hv : FR E s wSh v) {v3 : Int32} (he : ((v3 - v3 / nI E * nI E) + nI E) - ((v3 - v3 / nI E * nI E) + nI E) / nI E * nI E = nI b) (wMa : Nat → Int64) : ∃ wMa', f_X5_turns (nI E) wSh wMa (nI r) (nI s) v3 = some wMa' ∧ FR E r wMa' (tv E b v) ∧ FO E r wMa wMa' := by
  unfold f_X5_turns
  have n0 : ¬ nI E = 0 := q_ne0 (by omega) (by omega)
  rw [if_neg n0, if_neg n0, he]
  exact lp_tu hE1 hE hr hs hb hv v3 wMa FU 0 wMa (Nat.zero_le _) (by show _ < 2000; omega) (fun h hh => absurd hh (Nat.not_lt_zero _)) (FO.refl _ _ _)
theorem lp_tr {E r1 r3 b : Nat} (hE1 : 1 ≤ E) (hE : E ≤ 12) (h13 : r3 ≠ 29) (h11 : r1 ≠ 29) (hb : b < E) {v : Nat → Int64} (v2 : Int32) (M0 : Nat → Nat → Int64) (hv : MR E r1 M0 v) : ∀ (fu k : Nat) (M : Nat → Nat → Int64), k ≤ E → E - k < fu → (∀ h, h < k → M 29 ((h + b) % E) = v h) → (∀ r, r ≠ 29 → M r = M0 r) →
    ∃ M', f_X2_turnRow_L16 (nI E) r1 v2 r3 fu M (nI b) (nI k) = some M' ∧ MR E r3 M' (tv E b v) ∧ ∀ r, r ≠ 29 → r ≠ r3 → M' r = M0 r := by
  intro fu
  induction fu with
  | zero => intro k wMa h1 h2; exact absurd h2 (Nat.not_lt_zero _)
  | succ fu ih =>
    intro k M h1 h2 hA hB
    rw [f_X2_turnRow_L16]
    rcases Nat.lt_or_ge k E with q | q
    · have n1 : ¬ nI E ≤ nI k := q_nle (by omega) (by omega) q
      have n0 : ¬ nI E = 0 := q_ne0 (by omega) (by omega)
      have hm : (k + b) % E < E := Nat.mod_lt _ (by omega)
      have a1 : inb (nI k) (rl r1) = true := inb_t (rl_lt (by omega)) (by omega)
      have a2 : inb (nI ((k + b) % E)) (rl 29) = true := inb_t (rl_lt (by omega)) (by omega)
      rw [nI_add, q_rem (by omega) (by omega) (by omega)]
      simp only [if_neg n1, if_neg n0, if_pos a1, if_pos a2]
      rw [nI_clamp (by omega), nI_clamp (by omega), q_s, hB r1 h11, hv k q]
      refine ih (k + 1) _ (by omega) (by omega) (fun h hh => ?_) (fun r hr => by rw [up_n _ _ hr]; exact hB r hr)
      rw [up_s]
      by_cases e : h = k
      · rw [e, vL_s]
      · rw [vL_n ?_]
        · exact hA h (by omega)
        · rw [md hb q, md hb (show h < E by omega)]
          split <;> split <;> omega
    · rw [if_pos (q_le (by omega) (by omega) q), copyRow_ok h13, Option.bind_some]
      refine ⟨_, rfl, fun j hj => ?_, fun r hr hr3 => by rw [up_n _ _ hr3]; exact hB r hr⟩
      rw [up_s, cpr_in (by omega)]
      obtain ⟨h3, h4⟩ := md2 hb hj
      have h5 := hA ((j + E - b) % E) (by omega)
      rw [h4] at h5
      exact h5
theorem turnRow_ok {E r1 r3 b : Nat} (hE1 : 1 ≤ E) (hE : E ≤ 12) (h13 : r3 ≠ 29) (h11 : r1 ≠ 29) (hb : b < E) {v2 : Int32} (he : f_MathFloorMod v2 (nI E) = some (nI b)) {v : Nat → Int64} {M : Nat → Nat → Int64} (hv : MR E r1 M v) :
    ∃ M', f_X2_turnRow (nI E) M r1 v2 r3 = some M' ∧ MR E r3 M' (tv E b v) ∧ ∀ r, r ≠ 29 → r ≠ r3 → M' r = M r := by
  unfold f_X2_turnRow
  rw [he, Option.bind_some]
  exact lp_tr hE1 hE h13 h11 hb v2 M hv FU 0 M (Nat.zero_le _) (by show _ < 2000; omega) (fun h hh => absurd hh (Nat.not_lt_zero _)) (fun _ _ => rfl)
theorem relS_row {E s : Nat} {M : Nat → Nat → Int64} {wSh : Nat → Int64} (hE : E ≤ 12) (h : RelS (nI E) M wSh) (hs : s < 4) : FR E s wSh (M s) := fun i hi => ((relS_iff (by omega) M wSh).mp h s i hs hi).symm
set_option maxRecDepth 4000 in
theorem op_turn {zp : Int32} {ze : Int32} {zf : Int32} {zg : Int32} {zn : Int32} {aG : Nat → Int32} {aW : Nat → Int32} {aR : Nat → Int32} {aN : Nat → Int32} {aF : Nat → Int32} {lC : Nat → Int64} {lS : Nat → Int64} {lP : Nat → Int64} {lX : Nat → Int64} {ztc : Int32} {aTs : Nat → Int32} {aTn : Nat → Int32} {zoc : Int32} {aOs : Nat → Int32} {aOn : Nat → Int32} {aTp : Nat → Int32} {zln : Int32} {zpl : Int32} {zfa : Int32} {aSz : Nat → Int32} {zit : Int32} {zip : Int32} {zic : Int32} {zig : Int32} {M : Nat → Nat → Int64} {yp : Int32} {ye : Int32} {yg : Int32} {bPo : Nat → Int32} {bTb : Nat → Int32} {wSh : Nat → Int64} {wTe : Nat → Int64} {wNx : Nat → Int64} {bOs : Nat → Int32} {bOn : Nat → Int32} {yop : Int32} {bSo : Nat → Int32} {bNu : Nat → Int32} {ytr : Int32} {yiw : Int32} {wMa : Nat → Int64} {wPr : Nat → Int64} {bTp : Nat → Int32} {yln : Int32} {ypl : Int32} {yfa : Int32} {wLi : Nat → Int64} {bSi : Nat → Int32} {yhp : Int32} {yhe : Int32} {yhg : Int32} {wHs : Nat → Int64} {yhi : Int32} (h : Rel zp ze zf zg zn aG aW aR aN aF lC lS lP lX ztc aTs aTn zoc aOs aOn aTp zln zpl zfa aSz zit zip zic zig M yp ye yg bPo bTb wSh wTe wNx bOs bOn yop bSo bNu ytr yiw wMa wPr bTp yln ypl yfa wLi bSi yhp yhe yhg wHs yhi) (v1 : Int32) (v2 : Int32) (v3 : Int32) : ∃ z1 z2, f_X4_turn ze M v1 v2 v3 = some z1 ∧ f_X5_turn ye wSh yop yiw wMa v1 v2 v3 = some z2 ∧ z1.1 = z2.1 ∧ Rel zp ze zf zg zn aG aW aR aN aF lC lS lP lX ztc aTs aTn zoc aOs aOn aTp zln zpl zfa aSz zit zip zic zig z1.2 yp ye yg bPo bTb z2.2.1 wTe wNx bOs bOn z2.2.2.1 bSo bNu ytr z2.2.2.2.1 z2.2.2.2.2 wPr bTp yln ypl yfa wLi bSi yhp yhe yhg wHs yhi := by
  obtain ⟨hK, hS, hT, hP, hL, hI⟩ := h
  obtain ⟨P, E, g, hV, ⟨rfl, rfl, rfl, rfl, rfl⟩, hG, hW, hRa, hN, hF, hC, ⟨rfl, rfl, rfl⟩, hPo, hTb⟩ := hK
  have hK : RelK (nI P) (nI E) (nI ((P - 1) / E)) (nI g) (nI (gens P).length) aG aW aR aN aF lC (nI P) (nI E) (nI g) bPo bTb := ⟨P, E, g, hV, ⟨rfl, rfl, rfl, rfl, rfl⟩, hG, hW, hRa, hN, hF, hC, ⟨rfl, rfl, rfl⟩, hPo, hTb⟩
  have hb := hV.bd
  unfold f_X4_turn f_X5_turn
  simp only [pu_shelf4, pu_shelf5, Option.bind_some, pu_if]
  by_cases h1 : inb v1 4 = true
  · by_cases h2 : inb v3 4 = true
    · obtain ⟨s, hs, rfl⟩ := inb_ex h1 (by omega)
      obtain ⟨t, ht, rfl⟩ := inb_ex h2 (by omega)
      simp only [if_pos h1, if_pos h2]
      rw [nI_clamp (by omega), nI_clamp (by omega), Nat.zero_add, Nat.zero_add]
      obtain ⟨b, hb2, e3, e4⟩ := fm_ok hb.2.2.1 hb.2.2.2.1 v2
      obtain ⟨M', e5, h5, h6⟩ := turnRow_ok (r1 := s) (r3 := t) (M := M) hb.2.2.1 hb.2.2.2.1 (by omega) (by omega) hb2 e3 (fun _ _ => rfl)
      obtain ⟨wMa', e1, h7, -⟩ := turns_ok (r := 0) hb.2.2.1 hb.2.2.2.1 (by omega) hs hb2 (relS_row hb.2.2.2.1 hS hs) e4 wMa
      obtain ⟨wSh', e2, h3, h4⟩ := lays_ok (by omega) ht wSh h7
      have e1 : f_X5_turns (nI E) wSh wMa 0 (nI s) v2 = some wMa' := e1
      simp only [f_X5_begins_, Option.bind_some, e1, e2, e5]
      have hMS : MS M M' := fun r hr1 hr2 => h6 r (by omega) (by omega)
      exact ⟨_, _, rfl, rfl, rfl, hK, relS_put (by omega) hS h5 (fun r hr1 hr2 => h6 r (by omega) hr2) h3 h4, hT, hP, relL_M hMS hL, relI_M hMS hI⟩
    · simp only [if_pos h1, if_neg h2]
      exact ⟨_, _, rfl, rfl, rfl, hK, hS, hT, hP, hL, hI⟩
  · simp only [if_neg h1]
    exact ⟨_, _, rfl, rfl, rfl, hK, hS, hT, hP, hL, hI⟩
theorem lp_im {zp ze zg zit zip zic zig : Int32} (M0 : Nat → Nat → Int64) : ∀ (fu k : Nat) (M : Nat → Nat → Int64), k ≤ 4 → 4 - k < fu → (∀ s i, s < k → i < 12 → M (7 + s) i = M0 s i) → (∀ r, r < 7 → M r = M0 r) →
    ∃ M', f_X4_image_L40 zp ze zg fu zit zip zic zig M (nI k) = some (zp, zit, zip, zic, zig, M') ∧ (∀ s i, s < 4 → i < 12 → M' (7 + s) i = M0 s i) ∧ ∀ r, r < 7 → M' r = M0 r := by
  intro fu
  induction fu with
  | zero => intro k wMa h1 h2; exact absurd h2 (Nat.not_lt_zero _)
  | succ fu ih =>
    intro k M h1 h2 hA hB
    rw [f_X4_image_L40]
    rcases Nat.lt_or_ge k 4 with q | q
    · have n1 : ¬ (4 : Int32) ≤ nI k := q_nle (a := 4) (by omega) (by omega) q
      have a1 : inb (nI k) 4 = true := inb_t q (by omega)
      simp only [if_neg n1, if_pos a1]
      rw [nI_clamp (by omega), Nat.zero_add, copyRow_ok (by omega), Option.bind_some, q_s]
      refine ih (k + 1) _ (by omega) (by omega) (fun s i hs hi => ?_) (fun r hr => by rw [up_n _ _ (by omega)]; exact hB r hr)
      by_cases e : s = k
      · rw [e, up_s, cpr_in hi, hB k (by omega)]
      · rw [up_n _ _ (by omega)]
        exact hA s i (by omega) hi
    · rw [if_pos (show (4 : Int32) ≤ nI k from q_le (a := 4) (by omega) (by omega) q)]
      exact ⟨M, rfl, fun s i hs hi => hA s i (by omega) hi, hB⟩
set_option maxRecDepth 4000 in
theorem op_image {zp : Int32} {ze : Int32} {zf : Int32} {zg : Int32} {zn : Int32} {aG : Nat → Int32} {aW : Nat → Int32} {aR : Nat → Int32} {aN : Nat → Int32} {aF : Nat → Int32} {lC : Nat → Int64} {lS : Nat → Int64} {lP : Nat → Int64} {lX : Nat → Int64} {ztc : Int32} {aTs : Nat → Int32} {aTn : Nat → Int32} {zoc : Int32} {aOs : Nat → Int32} {aOn : Nat → Int32} {aTp : Nat → Int32} {zln : Int32} {zpl : Int32} {zfa : Int32} {aSz : Nat → Int32} {zit : Int32} {zip : Int32} {zic : Int32} {zig : Int32} {M : Nat → Nat → Int64} {yp : Int32} {ye : Int32} {yg : Int32} {bPo : Nat → Int32} {bTb : Nat → Int32} {wSh : Nat → Int64} {wTe : Nat → Int64} {wNx : Nat → Int64} {bOs : Nat → Int32} {bOn : Nat → Int32} {yop : Int32} {bSo : Nat → Int32} {bNu : Nat → Int32} {ytr : Int32} {yiw : Int32} {wMa : Nat → Int64} {wPr : Nat → Int64} {bTp : Nat → Int32} {yln : Int32} {ypl : Int32} {yfa : Int32} {wLi : Nat → Int64} {bSi : Nat → Int32} {yhp : Int32} {yhe : Int32} {yhg : Int32} {wHs : Nat → Int64} {yhi : Int32} (h : Rel zp ze zf zg zn aG aW aR aN aF lC lS lP lX ztc aTs aTn zoc aOs aOn aTp zln zpl zfa aSz zit zip zic zig M yp ye yg bPo bTb wSh wTe wNx bOs bOn yop bSo bNu ytr yiw wMa wPr bTp yln ypl yfa wLi bSi yhp yhe yhg wHs yhi) : ∃ z1 z2, f_X4_image zp ze zg zit zip zic zig M = some z1 ∧ f_X5_image yp ye yg wSh yhp yhe yhg wHs yhi = some z2 ∧ z1.1 = z2.1 ∧ Rel zp ze zf zg zn aG aW aR aN aF lC lS lP lX ztc aTs aTn zoc aOs aOn aTp zln zpl zfa aSz z1.2.1 z1.2.2.1 z1.2.2.2.1 z1.2.2.2.2.1 z1.2.2.2.2.2 yp ye yg bPo bTb wSh wTe wNx bOs bOn yop bSo bNu ytr yiw wMa wPr bTp yln ypl yfa wLi bSi z2.2.1 z2.2.2.1 z2.2.2.2.1 z2.2.2.2.2.1 z2.2.2.2.2.2 := by
  obtain ⟨hK, hS, hT, hP, hL, hI⟩ := h
  obtain ⟨P, E, g, hV, ⟨rfl, rfl, rfl, rfl, rfl⟩, hG, hW, hRa, hN, hF, hC, ⟨rfl, rfl, rfl⟩, hPo, hTb⟩ := hK
  have hK : RelK (nI P) (nI E) (nI ((P - 1) / E)) (nI g) (nI (gens P).length) aG aW aR aN aF lC (nI P) (nI E) (nI g) bPo bTb := ⟨P, E, g, hV, ⟨rfl, rfl, rfl, rfl, rfl⟩, hG, hW, hRa, hN, hF, hC, ⟨rfl, rfl, rfl⟩, hPo, hTb⟩
  have hb := hV.bd
  unfold f_X4_image f_X5_image
  obtain ⟨M', e1, h1, h2⟩ := lp_im (zp := nI P) (ze := nI E) (zg := nI g) (zit := 1) (zip := nI P) (zic := nI E) (zig := nI g) M FU 0 M (Nat.zero_le _) (by show _ < 2000; omega) (fun s i hs => absurd hs (Nat.not_lt_zero _)) (fun _ _ => rfl)
  have e1 : f_X4_image_L40 (nI P) (nI E) (nI g) FU 1 (nI P) (nI E) (nI g) M 0 = some (nI P, 1, nI P, nI E, nI g, M') := e1
  rw [e1, if_pos (show cpk 0 0 48 48 48 = true by decide)]
  refine ⟨_, _, rfl, rfl, rfl, hK, ?_, hT, hP, ?_, rfl, Or.inr ⟨rfl, P, E, g, hV, rfl, rfl, rfl, rfl, rfl, rfl, fun s i hs hi => ?_⟩⟩
  · rw [relS_iff (by omega)] at hS ⊢
    intro s i hs hi
    show M' s i = _
    rw [h2 s (by omega)]
    exact hS s i hs hi
  · intro t ht
    obtain ⟨a, b⟩ := hL t ht
    refine ⟨a, b.imp id (fun ⟨n, c, d, e⟩ => ⟨n, c, d, fun i hi => ?_⟩)⟩
    show M' (4 + t) i = _
    rw [h2 (4 + t) (by omega)]
    exact e i hi
  · show M' (7 + s) i = va_cpy wSh wHs (0 : Int32).toNatClampNeg (0 : Int32).toNatClampNeg (48 : Int32).toNatClampNeg (12 * s + i)
    rw [h1 s i hs (by omega), show (0 : Int32).toNatClampNeg = 0 by decide, show (48 : Int32).toNatClampNeg = 48 by decide, pk_cpy_in (by omega) (by omega), Nat.sub_zero, Nat.zero_add]
    exact (relS_iff (by omega) M wSh).mp hS s i hs hi

