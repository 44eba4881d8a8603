/-! THE PRIME PART of the reference, on -/
theorem chkF_all {P E g i : Nat} (hV : Vd P E g) (hi : i < E) : fstC P E g i < P ∧ cl P E g (fstC P E g i) = i ∧ keyS P E (tabN P g) (fstC P E g i) = keyS P E (tabN P g) (g ^ i % P) ∧ cnt1 (fun x => Nat.beq (cl P E g x) i) (P - 1) = (P - 1) / E := by
  have hb := hV.bd
  have h := chk_F P hV.1 E (by omega) hb.2.2.1 hV.2.2.2.1 g hb.2.2.2.2.2 hV.2.2.2.2
  rw [forceN_eq] at h
  unfold chkF at h
  rw [allN_iff] at h
  have h1 := h i hi
  rw [forceN_eq, Bool.and_eq_true, Bool.and_eq_true, Bool.and_eq_true] at h1
  exact ⟨Nat.le_of_ble_eq_true h1.1, Nat.eq_of_beq_eq_true h1.2.1, Nat.eq_of_beq_eq_true h1.2.2.1, Nat.eq_of_beq_eq_true h1.2.2.2⟩
theorem met_key {P E g z i j : Nat} (hP : P ≤ 61) (hE1 : 1 ≤ E) (hE : E ≤ 12) (hj : j < 12) : met P E g z i j = keyS P E (tabN P g) z / 256 ^ (12 * i + j) % 256 := by
  unfold keyS
  rw [sumK_dig _ _ _ _ (by omega)]
  unfold met
  refine cnt1_cong (fun x _ _ => ?_)
  have a1 : dT (tabN P g) x % E < E := Nat.mod_lt _ hE1
  have a2 : dT (tabN P g) ((z + P - x) % P) % E < E := Nat.mod_lt _ hE1
  show (!(x == z) && (cl P E g x == i && cl P E g ((z + P - x) % P) == j)) = (!(x == z) && (12 * (dT (tabN P g) x % E) + dT (tabN P g) ((z + P - x) % P) % E == 12 * i + j))
  show (!(x == z) && (dT (tabN P g) x % E == i && dT (tabN P g) ((z + P - x) % P) % E == j)) = _
  congr 1
  generalize dT (tabN P g) x % E = a at *
  generalize dT (tabN P g) ((z + P - x) % P) % E = b at *
  rw [Bool.eq_iff_iff, Bool.and_eq_true, beq_iff_eq, beq_iff_eq, beq_iff_eq]
  omega
theorem met_fst {P E g h i j : Nat} (hV : Vd P E g) (hh : h < E) (hj : j < 12) : met P E g (fstC P E g h) i j = met P E g (g ^ h % P) i j := by
  have hb := hV.bd
  rw [met_key hb.2.1 hb.2.2.1 hb.2.2.2.1 hj, met_key hb.2.1 hb.2.2.1 hb.2.2.2.1 hj, (chkF_all hV hh).2.2.1]
theorem classAt_ok {P E g : Nat} (hV : Vd P E g) {bPo : Nat → Int32} (hW : PW P g bPo) {x : Nat} (h1 : 1 ≤ x) (h2 : x < P) : f_X5_classAt (nI E) bPo (nI x) = some (nI (cl P E g x)) := by
  have hb := hV.bd
  have h3 := dl_x hV.1 hV.2.2.2.2 h1 h2
  unfold f_X5_classAt
  rw [if_pos (inb_t (by omega) (by omega)), if_neg (q_ne0 (by omega) (by omega)), nI_clamp (by omega), hW x h1 h2, q_rem (by omega) (by omega) (by omega)]
  rfl
theorem lp_first {P E g i : Nat} (hV : Vd P E g) {bPo : Nat → Int32} (hW : PW P g bPo) (hi : i < E) : ∀ (n fu x : Nat), n ≤ fu → 1 ≤ x → fstGo (fun x => Nat.beq (cl P E g x) i) n x < P → cl P E g (fstGo (fun x => Nat.beq (cl P E g x) i) n x) = i →
    f_X5_firstOf_L2 (nI E) bPo (nI i) (fu + 1) (nI x) = some (nI (fstGo (fun x => Nat.beq (cl P E g x) i) n x)) := by
  have hb := hV.bd
  intro n
  induction n with
  | zero =>
    intro fu x _ h1 h2 h3
    have h2 : x < P := h2
    have h3 : cl P E g x = i := h3
    rw [f_X5_firstOf_L2, classAt_ok hV hW h1 h2, Option.bind_some, h3, if_pos rfl]
    rfl
  | succ n ih =>
    intro fu x hn h1 h2 h3
    have hge := fstGo_ge (fun x => Nat.beq (cl P E g x) i) (n + 1) x
    have hc := cl_lt hV x
    rw [f_X5_firstOf_L2, classAt_ok hV hW h1 (by omega), Option.bind_some]
    by_cases he : cl P E g x = i
    · have e : fstGo (fun x => Nat.beq (cl P E g x) i) (n + 1) x = x := by
        show (if Nat.beq (cl P E g x) i then x else _) = x
        rw [he, Nat.beq_refl]
        rfl
      rw [if_pos (by rw [he]), e]
    · have e : fstGo (fun x => Nat.beq (cl P E g x) i) (n + 1) x = fstGo (fun x => Nat.beq (cl P E g x) i) n (x + 1) := by
        show (if Nat.beq (cl P E g x) i then x else _) = _
        rw [if_neg (fun q => he (Nat.eq_of_beq_eq_true q))]
      rw [e] at h2 h3 ⊢
      rw [if_neg (fun w => he ((q_eq (by omega) (by omega)).mp w)), q_s]
      obtain ⟨f2, rfl⟩ : ∃ f2, fu = f2 + 1 := ⟨fu - 1, by omega⟩
      exact ih f2 (x + 1) (by omega) (by omega) h2 h3
theorem firstOf_ok {P E g i : Nat} (hV : Vd P E g) {bPo : Nat → Int32} (hW : PW P g bPo) (hi : i < E) : f_X5_firstOf (nI E) bPo (nI i) = some (nI (fstC P E g i)) := by
  have hb := hV.bd
  have h := chkF_all hV hi
  exact lp_first hV hW hi P 1999 1 (by omega) (Nat.le_refl 1) h.1 h.2.1
theorem fstC_pos (P E g i : Nat) : 1 ≤ fstC P E g i := fstGo_ge _ _ _
theorem opp_fst {P E g i : Nat} (hV : Vd P E g) (hi : i < E) : cl P E g (P - fstC P E g i) = opp P E i := by
  have hb := hV.bd
  have h := chkF_all hV hi
  have h2 := dl_x hV.1 hV.2.2.2.2 (fstC_pos P E g i) h.1
  unfold cl opp
  have hd : E ∣ P - 1 := Nat.dvd_of_mod_eq_zero hV.2.2.2.1
  have h3 : dl P g (fstC P E g i) % E = i := h.2.1
  rw [h2.2.2, Nat.mod_mod_of_dvd _ hd, ← Nat.mod_add_mod, h3]
theorem opposite5_ok {P E g i : Nat} (hV : Vd P E g) {bPo : Nat → Int32} (hW : PW P g bPo) (hi : i < E) : f_X5_oppositeOf (nI P) (nI E) bPo (nI i) = some (nI (opp P E i)) := by
  have hb := hV.bd
  have h := chkF_all hV hi
  have h1 := fstC_pos P E g i
  unfold f_X5_oppositeOf
  rw [firstOf_ok hV hW hi, Option.bind_some, pk_sub (by omega), classAt_ok hV hW (by omega) (by omega), Option.bind_some, opp_fst hV hi]
theorem q_at (i j h : Nat) : f_X5_at (nI i) (nI j) (nI h) = some (nI (144 * i + 12 * j + h)) := by
  unfold f_X5_at
  rw [show (144 : Int32) = nI 144 from rfl, show (12 : Int32) = nI 12 from rfl, pk_mul, pk_mul, nI_add, nI_add]
theorem lp_t80 {P E g z h : Nat} (hV : Vd P E g) {bPo : Nat → Int32} (hW : PW P g bPo) (hz1 : 1 ≤ z) (hz2 : z < P) (hh : h < 12) {KK : (Nat → Int32) → (Nat → Int32) → Int32 → Option ((Nat → Int32) × (Nat → Int32))} (B : Nat → Nat → Int32) (bT0 : Nat → Int32) : ∀ (fu x : Nat) (bTb : Nat → Int32), 1 ≤ x → x ≤ P → P - x < fu →
    (∀ i j, i < 12 → j < 12 → bTb (144 * i + 12 * j + h) = B i j + nI (cnt1 (metf P E g z i j) (x - 1))) → (∀ k, k % 12 ≠ h → bTb k = bT0 k) →
    ∃ bTb', f_X5_findsClasses_L80 (nI P) (nI E) (nI g) KK fu bPo bTb (nI h) (nI z) (nI x) = KK bPo bTb' (nI h + 1) ∧ (∀ i j, i < 12 → j < 12 → bTb' (144 * i + 12 * j + h) = B i j + nI (met P E g z i j)) ∧ ∀ k, k % 12 ≠ h → bTb' k = bT0 k := by
  have hb := hV.bd
  intro fu
  induction fu with
  | zero => intro x bTb h0 h1 h2; exact absurd h2 (Nat.not_lt_zero _)
  | succ fu ih =>
    intro x bTb h0 h1 h2 hA hB
    rw [f_X5_findsClasses_L80]
    rcases Nat.lt_or_ge x P with q | q
    · have hm : (z + P - x) % P < P := Nat.mod_lt _ (by omega)
      rw [if_neg (q_nle (by omega) (by omega) q), if_neg (q_ne0 (by omega) (by omega)), q_subadd (by omega), q_rem (by omega) (by omega) (by omega)]
      by_cases hxz : x = z
      · have e0 : (z + P - x) % P = 0 := by rw [hxz, show z + P - z = P by omega, Nat.mod_self]
        rw [e0, if_pos (show nI 0 ≤ 0 from by decide), q_s]
        refine ih (x + 1) bTb (by omega) (by omega) (by omega) (fun i j hi hj => ?_) hB
        rw [show x + 1 - 1 = x - 1 + 1 by omega, cnt1_s, show x - 1 + 1 = x by omega, hA i j hi hj]
        have e1 : metf P E g z i j x = false := by simp [metf, hxz]
        rw [e1]
        simp
      · have c1 := cl_lt hV x
        have hms := mod_sub h0 q hz1 hz2 hxz
        have hpos : 1 ≤ (z + P - x) % P := by
          rw [hms]
          split <;> omega
        have c2 := cl_lt hV ((z + P - x) % P)
        rw [if_neg (nI_nle hpos (by omega)), classAt_ok hV hW h0 q, Option.bind_some, classAt_ok hV hW hpos hm, Option.bind_some, q_at, Option.bind_some, if_pos (inb_t (by omega) (by omega)), if_pos (inb_t (by omega) (by omega)), nI_clamp (by omega), q_s]
        refine ih (x + 1) _ (by omega) (by omega) (by omega) (fun i j hi hj => ?_) (fun k hk => ?_)
        · rw [show x + 1 - 1 = x - 1 + 1 by omega, cnt1_s, show x - 1 + 1 = x by omega]
          by_cases he : 144 * i + 12 * j + h = 144 * cl P E g x + 12 * cl P E g ((z + P - x) % P) + h
          · have e1 : cl P E g x = i := by omega
            have e2 : cl P E g ((z + P - x) % P) = j := by omega
            have e3 : metf P E g z i j x = true := by simp [metf, hxz, e1, e2]
            rw [he, pk_us, ← he, hA i j hi hj, e3, Int32.add_assoc, q_s]
            simp
          · rw [pk_un he, hA i j hi hj]
            have e3 : metf P E g z i j x = false := by
              refine Bool.eq_false_iff.mpr (fun w => ?_)
              simp [metf, hxz] at w
              exact he (by rw [w.1, w.2])
            rw [e3]
            simp
        · rw [pk_un (fun w => hk (by rw [w]; omega))]
          exact hB k hk
    · rw [if_pos (q_le (by omega) (by omega) q)]
      refine ⟨bTb, rfl, fun i j hi hj => ?_, hB⟩
      rw [hA i j hi hj, met_def, show x = P by omega]
theorem lp_t63 {P E g : Nat} (hV : Vd P E g) {bPo : Nat → Int32} (hW : PW P g bPo) : ∀ (fu h : Nat) (bTb : Nat → Int32), h ≤ E → E - h < fu → (∀ i j h', i < E → j < E → h' < 12 → bTb (144 * i + 12 * j + h') = (if h' < h then nI (met P E g (g ^ h' % P) i j) else 0)) →
    ∃ bTb', f_X5_findsClasses_L63 (nI P) (nI E) (nI g) fu bPo bTb (nI h) = some (bPo, bTb') ∧ ∀ i j h', i < E → j < E → h' < E → bTb' (144 * i + 12 * j + h') = nI (met P E g (g ^ h' % P) i j) := by
  have hb := hV.bd
  intro fu
  induction fu with
  | zero => intro h bTb h1 h2; exact absurd h2 (Nat.not_lt_zero _)
  | succ fu ih =>
    intro h bTb h1 h2 hA
    rw [f_X5_findsClasses_L63]
    rcases Nat.lt_or_ge h E with q | q
    · have hf := chkF_all hV q
      obtain ⟨b1, e1, e2, e3⟩ := lp_t80 (g := g) (KK := fun w0 w1 w2 => f_X5_findsClasses_L63 (nI P) (nI E) (nI g) fu w0 w1 w2) hV hW (fstC_pos P E g h) hf.1 (show h < 12 by omega) (fun i j => bTb (144 * i + 12 * j + h)) bTb FU 1 bTb (by omega) (by omega) (by show _ < 2000; omega) (fun i j hi hj => by show _ = _ + nI 0; rw [nI_0, Int32.add_zero]) (fun _ _ => rfl)
      rw [if_neg (q_nle (by omega) (by omega) q), firstOf_ok hV hW q, Option.bind_some, show (1 : Int32) = nI 1 from rfl, e1]
      show ∃ bTb', f_X5_findsClasses_L63 _ _ _ _ _ _ (nI h + 1) = _ ∧ _
      rw [q_s]
      refine ih (h + 1) b1 (by omega) (by omega) (fun i j h' x1 x2 x3 => ?_)
      by_cases hh : h' = h
      · subst hh
        rw [e2 i j (by omega) (by omega)]
        show bTb (144 * i + 12 * j + h') + _ = _
        rw [hA i j h' x1 x2 x3, met_fst hV q (by omega)]
        simp
      · rw [e3 _ (by omega), hA i j h' x1 x2 x3]
        by_cases z : h' < h
        · rw [if_pos z, if_pos (by omega)]
        · rw [if_neg z, if_neg (by omega)]
    · rw [if_pos (q_le (by omega) (by omega) q)]
      refine ⟨bTb, rfl, fun i j h' x1 x2 x3 => ?_⟩
      rw [hA i j h' x1 x2 (by omega), if_pos (by omega)]
theorem lp_t41 {P E g : Nat} {bPo : Nat → Int32} : ∀ (fu k : Nat) (bTb : Nat → Int32), k ≤ 1728 → 1728 - k < fu → (∀ i, i < k → bTb i = 0) →
    ∃ bTb', (∀ i, i < 1728 → bTb' i = 0) ∧ f_X5_findsClasses_L41 (nI P) (nI E) (nI g) fu bPo bTb (nI k) = f_X5_findsClasses_L63 (nI P) (nI E) (nI g) FU bPo bTb' 0 := by
  intro fu
  induction fu with
  | zero => intro k aN h1 h2; exact absurd h2 (Nat.not_lt_zero _)
  | succ fu ih =>
    intro k aN h1 h2 hA
    rw [f_X5_findsClasses_L41]
    rcases Nat.lt_or_ge k 1728 with q | q
    · rw [if_neg (show ¬ (1728 : Int32) ≤ nI k from q_nle (a := 1728) (by decide) (by omega) q), if_pos (inb_t q (by omega)), nI_clamp (by omega), q_s]
      refine ih (k + 1) _ (by omega) (by omega) (fun i hi => ?_)
      by_cases he : i = k
      · rw [he, pk_us]
      · rw [pk_un he]
        exact hA i (by omega)
    · rw [if_pos (show (1728 : Int32) ≤ nI k from q_le (a := 1728) (by decide) (by omega) q)]
      exact ⟨aN, fun i hi => hA i (by omega), rfl⟩
theorem lp_t4 {P E g : Nat} (hP : P ∈ prs) (hg : isG P g = true) (hg2 : g < P) (bTb : Nat → Int32) : ∀ (fu k : Nat) (bPo : Nat → Int32), k ≤ P - 1 → P - 1 - k < fu →
    ∃ bPo', f_X5_findsClasses_L4 (nI P) (nI E) (nI g) fu bPo bTb (nI (g ^ k % P)) (nI k) = f_X5_findsClasses_L41 (nI P) (nI E) (nI g) FU bPo' bTb 0 ∧ (∀ j, k ≤ j → j < P - 1 → bPo' (g ^ j % P) = nI j) ∧ ∀ x, (∀ j, k ≤ j → j < P - 1 → x ≠ g ^ j % P) → bPo' x = bPo x := by
  have hb := prs_bd hP
  intro fu
  induction fu with
  | zero => intro k aW h1 h2; exact absurd h2 (Nat.not_lt_zero _)
  | succ fu ih =>
    intro k aW h1 h2
    have hm : g ^ k % P < P := Nat.mod_lt _ (by omega)
    rw [f_X5_findsClasses_L4, q_pred (by omega)]
    rcases Nat.lt_or_ge k (P - 1) with q | q
    · rw [if_neg (q_nle (by omega) (by omega) q), if_pos (inb_t (by omega) (by omega)), if_neg (q_ne0 (by omega) (by omega)), pk_mul, nI_clamp (by omega), q_rem (by have := Nat.mul_le_mul (Nat.le_of_lt hm) (Nat.le_of_lt hg2); have : P * P ≤ 61 * 61 := Nat.mul_le_mul hb.2 hb.2; omega) (by omega) (by omega), q_step, q_s]
      obtain ⟨aW', e1, e2, e3⟩ := ih (k + 1) (upd aW (g ^ k % P) (nI k)) (by omega) (by omega)
      refine ⟨aW', e1, fun j hj1 hj2 => ?_, fun x hx => ?_⟩
      · rcases Nat.lt_or_ge k j with z | z
        · exact e2 j z hj2
        · obtain rfl : j = k := by omega
          rw [e3 _ (fun i hi1 hi2 he => ?_), pk_us]
          have a1 := dl_pow hP hg hi2
          have a2 := dl_pow hP hg hj2
          rw [← he, a2] at a1
          omega
      · rw [e3 x (fun j hj1 hj2 => hx j (by omega) hj2), pk_un (hx k (Nat.le_refl k) q)]
    · rw [if_pos (q_le (by omega) (by omega) q)]
      exact ⟨aW, rfl, fun j hj1 hj2 => absurd hj2 (by omega), fun x hx => rfl⟩
/-- what RelK says of the reference's table -/
def TB (P E g : Nat) (bTb : Nat → Int32) : Prop := ∀ i j h, i < E → j < E → h < E → bTb (144 * i + 12 * j + h) = nI (met P E g (g ^ h % P) i j)
theorem findsClasses_ok {P E g : Nat} (hV : Vd P E g) (bPo bTb : Nat → Int32) : ∃ bPo' bTb', f_X5_findsClasses (nI P) (nI E) (nI g) bPo bTb = some (bPo', bTb') ∧ PW P g bPo' ∧ TB P E g bTb' := by
  have hb := hV.bd
  obtain ⟨b1, e1, e2, -⟩ := lp_t4 (E := E) hV.1 hV.2.2.2.2 hb.2.2.2.2.2 bTb FU 0 bPo (Nat.zero_le _) (by show _ < 2000; omega)
  rw [Nat.pow_zero, Nat.mod_eq_of_lt (show 1 < P by omega)] at e1
  have hW : PW P g b1 := fun x h1 h2 => by
    have h3 := dl_x hV.1 hV.2.2.2.2 h1 h2
    have h4 := e2 (dl P g x) (Nat.zero_le _) h3.2.1
    rw [h3.1] at h4
    exact h4
  obtain ⟨t1, z1, e3⟩ := lp_t41 (P := P) (E := E) (g := g) (bPo := b1) FU 0 bTb (Nat.zero_le _) (by show _ < 2000; omega) (fun i h => absurd h (Nat.not_lt_zero i))
  obtain ⟨t2, e4, h4⟩ := lp_t63 hV hW FU 0 t1 (Nat.zero_le _) (by show _ < 2000; omega) (fun i j h' x1 x2 x3 => by rw [z1 _ (by omega)]; simp)
  refine ⟨b1, t2, ?_, hW, h4⟩
  unfold f_X5_findsClasses
  show f_X5_findsClasses_L4 (nI P) (nI E) (nI g) FU bPo bTb (nI 1) (nI 0) = _
  rw [e1]
  show f_X5_findsClasses_L41 (nI P) (nI E) (nI g) FU b1 bTb (nI 0) = _
  rw [e3]
  exact e4
