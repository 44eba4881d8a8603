/-! READ: a part, by what is known of the sum within its brackets -/
abbrev R4 := Int32 → (Nat → Int32) → Int32 → (Nat → Int32) → (Nat → Int32) → Int32 → (Nat → Int32) → (Nat → Int32) → (Nat → Int32) → Int32 → Int32 → Int32 → (Nat → Nat → Int64) → Int32 → Option C4
abbrev R5 := Int32 → Int32 → (Nat → Int32) → (Nat → Int32) → (Nat → Int32) → (Nat → Int32) → Int32 → (Nat → Int32) → (Nat → Int32) → Int32 → Int32 → (Nat → Int64) → (Nat → Int64) → (Nat → Int32) → Int32 → Int32 → Int32 → Int32 → Option C5
def SumSim (P E n : Nat) (aF bPo bTb aTp bTp : Nat → Int32) (RS4 : R4) (RS5 : R5) (o r : Nat) : Prop := SimG E n o (11 + o) r (11 + o) (17 + o) (23 + o) (fun ztc aTs aTn zoc aOs aOn zpl zfa M => RS4 (nI E) aF ztc aTs aTn zoc aOs aOn aTp (nI n) zpl zfa M (nI o)) (fun bOs bOn yop bSo bNu ytr yiw wMa wPr ypl yfa => RS5 (nI P) (nI E) bPo bTb bOs bOn yop bSo bNu ytr yiw wMa wPr bTp (nI n) ypl yfa (nI r))
theorem rdF_told {o f : Nat} (ho : o ≤ 5) {aOs aOn bOs bOn : Nat → Int32} (hO : OP o aOs aOn bOs bOn) (hf : f ≤ 80) (aTs aTn bSo bNu aOs2 aOn2 bOs2 bOn2 : Nat → Int32) (zpl yop2 ypl2 : Int32) {M M2 : Nat → Nat → Int64} (hM : ∀ x, x < 11 → M2 x = M x) (wMa2 wPr2 : Nat → Int64) : RdF M (0, nI (o + 1), tS aTs aOs o 7, tS aTn aOn o (nI f), 0, aOs2, aOn2, zpl, nI f, M2) (bOs2, bOn2, yop2, tS bSo bOs o 7, tS bNu bOn o (nI f), nI (o + 1), 1, wMa2, wPr2, ypl2, nI f) :=
  ⟨_, _, _, _, _, _, _, _, _, _, _, _, _, _, _, _, _, rfl, rfl, relT_told ho hO aTs aTn bSo bNu 7 (nI f), Or.inr ⟨f, hf, rfl⟩, hM⟩
set_option maxRecDepth 8000 in
theorem part_sim {P E g n o r : Nat} {aF bPo bTb aTp bTp : Nat → Int32} {RS4 : R4} {RS5 : R5} (hV : Vd P E g) (hn : n ≤ 80) (hT : TP n aTp bTp) (ho : o ≤ 5) (hr : r < 20) (hRS : o < 5 → SumSim P E n aF bPo bTb aTp bTp RS4 RS5 (o + 1) r) :
    SimG E n o (23 + o) r (12 + o) (18 + o) (23 + o) (fun ztc aTs aTn zoc aOs aOn zpl zfa M => f_X1_readPart RS4 (nI E) aF ztc aTs aTn zoc aOs aOn aTp (nI n) zpl zfa M (nI o)) (fun bOs bOn yop bSo bNu ytr yiw wMa wPr ypl yfa => f_X5_part RS5 (nI P) (nI E) bPo bTb bOs bOn yop bSo bNu ytr yiw wMa wPr bTp (nI n) ypl yfa (nI r)) := by
  intro ztc aTs aTn aOs aOn M bOs bOn bSo bNu ytr wMa wPr p hp hO
  show ∃ zc zr, f_X1_readPart RS4 (nI E) aF ztc aTs aTn (nI o) aOs aOn aTp (nI n) (nI p) (-1) M (nI o) = some zc ∧ f_X5_part RS5 (nI P) (nI E) bPo bTb bOs bOn (nI o) bSo bNu ytr 0 wMa wPr bTp (nI n) (nI p) (-1) (nI r) = some zr ∧ (RdF M zc zr ∨ RdO E n o (23 + o) r (12 + o) (18 + o) (23 + o) (p + 1) ztc aTs aTn bSo bNu ytr M wMa zc zr)
  have hb := hV.bd
  have e0 : ¬ (1 : Int32) = 0 := by decide
  have a6 : inb (nI o) 6 = true := inb_t (by omega) (by omega)
  have hOC : (nI o).toNatClampNeg = o := nI_clamp (by omega)
  have l0 := letter_ok (aTp := aTp) hn hp
  have iF := isFigure5 hn hp hT
  have i110 := isNext_ok (v := 110) hn hp hT (by decide)
  have i40 := isNext_ok (v := 40) hn hp hT (by decide)
  unfold f_X1_readPart f_X5_part
  simp only [l0, isFigure4, iF, i110, i40, Option.bind_some]
  by_cases hf : fig (ltr aTp n p) = true
  · obtain ⟨a, p2, b1, b2, b3, b4, b5⟩ := figures_ok (m := 3) hn (by omega) (by omega) hT hf bOs bOn (nI o) bSo bNu ytr 0 (-1)
    have b1 : f_X1_readFigures aTp (nI n) (nI p) 3 = some (nI a, nI p2) := b1
    have b2 : f_X5_figures bOs bOn (nI o) bSo bNu ytr 0 bTp (nI n) (nI p) (-1) 3 = some (nI a, bSo, bNu, ytr, 0, nI p2, -1) := b2
    obtain ⟨wM2, b6, b7, b8⟩ := becomesWhole_ok (E := E) (r := r) (by omega) (by omega) (nI a).toInt64 wMa
    simp only [hf, ↓reduceIte, e0, a6, b1, b2, Option.bind_some, hOC, b6, f_X4_setWhole]
    refine ⟨_, _, rfl, rfl, Or.inr ⟨aOs, aOn, p2, _, bOs, bOn, wM2, wPr, fun _ => -(nI a).toInt64, rfl, rfl, hO, by omega, b5, fun h hh => ?_, b7, fun x hx => ?_, KW.of_FO (by omega) b8⟩⟩
    · show va_up M (23 + o) _ (23 + o) h = _
      rw [up_s, swr_in (by omega)]
    · unfold Uf at hx
      exact up_n _ _ (by omega)
  · simp only [hf, ↓reduceIte]
    by_cases h110 : ltr aTp n p = 110
    · have hq : p < n := ltr_in (by rw [h110]; decide)
      have l1 := letter_ok (aTp := aTp) hn (show p + 1 ≤ n by omega)
      simp only [h110, ↓reduceIte, e0, a6, hOC, q_s p, f_X1_readPeriod, l1, isFigure4, Option.bind_some]
      by_cases hf2 : fig (ltr aTp n (p + 1)) = true
      · obtain ⟨a, p2, b1, b2, b3, b4, b5⟩ := figures_ok (m := 2) hn (by omega) (by omega) hT hf2 bOs bOn (nI o) bSo bNu ytr 0 (-1)
        have b1 : f_X1_readFigures aTp (nI n) (nI (p + 1)) 2 = some (nI a, nI p2) := b1
        have b2 : f_X5_figures bOs bOn (nI o) bSo bNu ytr 0 bTp (nI n) (nI (p + 1)) (-1) 2 = some (nI a, bSo, bNu, ytr, 0, nI p2, -1) := b2
        have b9 := pu_cls5 (E := E) (by omega) (by omega) (nI a)
        simp only [hf2, ↓reduceIte, e0, b1, b2, b9, Option.bind_some]
        by_cases ha : a < E
        · have a7 : inb (nI a) (rl (23 + o)) = true := inb_t (rl_lt (by omega)) (by omega)
          have a8 : inb (nI a) E = true := inb_t ha (by omega)
          have a9 : nI a < nI E := q_lt (by omega) (by omega) ha
          obtain ⟨wM2, c1, c2, c3⟩ := lp_l73 (RS5 := RS5) (yp := nI P) (bPo := bPo) (bTb := bTb) (bTp := bTp) (yln := nI n) (E := E) (r := r) (by omega) (by omega) (nI a) bOs bOn (nI o) bSo bNu ytr 0 wMa wPr (nI p2) (-1) FU 0 wMa (Nat.zero_le _) (by show _ < 2000; omega) (fun h hh => absurd hh (Nat.not_lt_zero _)) (FO.refl _ _ _)
          have c1 : f_X5_part_L73 RS5 (nI P) (nI E) bPo bTb bTp (nI n) (nI r) FU bOs bOn (nI o) bSo bNu ytr 0 wMa wPr (nI p2) (-1) (nI a) 0 = some (bOs, bOn, nI o, bSo, bNu, ytr, 0, wM2, wPr, nI p2, -1) := c1
          simp only [a8, a9, ↓reduceIte, e0, c1, f_X4_setPeriod, a7, Option.bind_some, nI_clamp (show a < 2 ^ 31 by omega)]
          refine ⟨_, _, rfl, rfl, Or.inr ⟨aOs, aOn, p2, _, bOs, bOn, wM2, wPr, fun h => if nI h = nI a then 1 else 0, rfl, rfl, hO, by omega, b5, fun h hh => ?_, c2, fun x hx => ?_, KW.of_FO (by omega) c3⟩⟩
          · show va_up M (23 + o) _ (23 + o) h = if nI h = nI a then 1 else 0
            rw [up_s]
            by_cases e : h = a
            · rw [e, vL_s, if_pos rfl]
            · rw [vL_n e, swr_in (by omega), if_neg (fun w => e ((q_eq (by omega) (by omega)).mp w))]
              rfl
          · unfold Uf at hx
            exact up_n _ _ (by omega)
        · have a8 : inb (nI a) E = false := by
            rw [inb_nI (by omega), decide_eq_false ha]
          have a9 : ¬ nI a < nI E := q_nlt (by omega) (by omega) (Nat.not_lt.mp ha)
          have a10 := q_pred (P := p2) (by omega)
          have f4 := faultAt_ok ho ztc aTs aTn aOs aOn (-1) (nI (p2 - 1))
          have f5 := faulty_ok ho bOs bOn bSo bNu ytr 0 (-1) (nI (p2 - 1))
          obtain ⟨wM2, c1, c2, c3⟩ := lp_l73 (RS5 := RS5) (yp := nI P) (bPo := bPo) (bTb := bTb) (bTp := bTp) (yln := nI n) (E := E) (r := r) (by omega) (by omega) (nI a) bOs bOn (nI o) (tS bSo bOs o 7) (tS bNu bOn o (nI (p2 - 1))) (nI (o + 1)) 1 wMa wPr (nI p2) (nI (p2 - 1)) FU 0 wMa (Nat.zero_le _) (by show _ < 2000; omega) (fun h hh => absurd hh (Nat.not_lt_zero _)) (FO.refl _ _ _)
          have c1 : f_X5_part_L73 RS5 (nI P) (nI E) bPo bTb bTp (nI n) (nI r) FU bOs bOn (nI o) (tS bSo bOs o 7) (tS bNu bOn o (nI (p2 - 1))) (nI (o + 1)) 1 wMa wPr (nI p2) (nI (p2 - 1)) (nI a) 0 = some (bOs, bOn, nI o, tS bSo bOs o 7, tS bNu bOn o (nI (p2 - 1)), nI (o + 1), 1, wM2, wPr, nI p2, nI (p2 - 1)) := c1
          simp only [a8, a9, a10, f4, f5, Bool.false_eq_true, ↓reduceIte, c1, Option.bind_some]
          exact ⟨_, _, rfl, rfl, Or.inl (rdF_told ho hO (by omega) aTs aTn bSo bNu aOs aOn bOs bOn _ _ _ (fun _ _ => rfl) wM2 wPr)⟩
      · obtain ⟨wM2, c1, c2, c3⟩ := lp_l73 (RS5 := RS5) (yp := nI P) (bPo := bPo) (bTb := bTb) (bTp := bTp) (yln := nI n) (E := E) (r := r) (by omega) (by omega) 0 bOs bOn (nI o) (tS bSo bOs o 7) (tS bNu bOn o (nI (p + 1))) (nI (o + 1)) 1 wMa wPr (nI (p + 1)) (nI (p + 1)) FU 0 wMa (Nat.zero_le _) (by show _ < 2000; omega) (fun h hh => absurd hh (Nat.not_lt_zero _)) (FO.refl _ _ _)
        have c1 : f_X5_part_L73 RS5 (nI P) (nI E) bPo bTb bTp (nI n) (nI r) FU bOs bOn (nI o) (tS bSo bOs o 7) (tS bNu bOn o (nI (p + 1))) (nI (o + 1)) 1 wMa wPr (nI (p + 1)) (nI (p + 1)) 0 0 = some (bOs, bOn, nI o, tS bSo bOs o 7, tS bNu bOn o (nI (p + 1)), nI (o + 1), 1, wM2, wPr, nI (p + 1), nI (p + 1)) := c1
        have f4 := faultAt_ok ho ztc aTs aTn aOs aOn (-1) (nI (p + 1))
        have f5 := figures_no (m := 2) hn (show p + 1 ≤ n by omega) ho hT hf2 bOs bOn bSo bNu ytr 0 (-1)
        simp only [hf2, ↓reduceIte, e0, f4, f5, c1, Option.bind_some]
        exact ⟨_, _, rfl, rfl, Or.inl (rdF_told ho hO (by omega) aTs aTn bSo bNu aOs aOn bOs bOn _ _ _ (fun _ _ => rfl) wM2 wPr)⟩
    · have f4 := faultAt_ok ho ztc aTs aTn aOs aOn (-1) (nI p)
      have f5 := faulty_ok ho bOs bOn bSo bNu ytr 0 (-1) (nI p)
      simp only [h110, ↓reduceIte]
      by_cases h40 : ltr aTp n p = 40
      · have hq : p < n := ltr_in (by rw [h40]; decide)
        by_cases h5 : o = 5
        · have n5 : (5 : Int32) ≤ nI o := q_le (a := 5) (by omega) (by omega) (by omega)
          simp only [h40, ↓reduceIte, e0, n5, f4, f5, Option.bind_some]
          exact ⟨_, _, rfl, rfl, Or.inl (rdF_told ho hO (by omega) aTs aTn bSo bNu aOs aOn bOs bOn _ _ _ (fun _ _ => rfl) wMa wPr)⟩
        · have ho5 : o < 5 := by omega
          have n5 : ¬ (5 : Int32) ≤ nI o := q_nle (a := 5) (by omega) (by omega) ho5
          obtain ⟨zc, zr, c1, c2, c3⟩ := hRS ho5 ztc aTs aTn (upd aOs o 6) (upd aOn o (nI p)) M (upd bOs o 6) (upd bOn o (nI p)) bSo bNu ytr wMa wPr (p + 1) (by omega) (hO.put 6 (nI p))
          have c1 : RS4 (nI E) aF ztc aTs aTn (nI (o + 1)) (upd aOs o 6) (upd aOn o (nI p)) aTp (nI n) (nI (p + 1)) (-1) M (nI (o + 1)) = some zc := c1
          have c2 : RS5 (nI P) (nI E) bPo bTb (upd bOs o 6) (upd bOn o (nI p)) (nI (o + 1)) bSo bNu ytr 0 wMa wPr bTp (nI n) (nI (p + 1)) (-1) (nI r) = some zr := c2
          have k4 := enter_ok ho5 aOs aOn 6 (nI p)
          have k5 := opens_ok (show o < 7 by omega) bOs bOn 6 (nI p)
          simp only [h40, ↓reduceIte, e0, n5, f_X1_readBracket, k4, k5, q_s p, q_s o, c1, c2, Option.bind_some]
          rcases c3 with ⟨ztc', aTs', aTn', aOs', aOn', zpl', zfa', M', bOs', bOn', yop', bSo', bNu', ytr', wMa', wPr', ypl', rfl, rfl, d1, d2, d3⟩ | ⟨aOs', aOn', p2, M2, bOs', bOn', wM2, wP2, v, rfl, rfl, d1, d2, d3, d4, d5, d6, d7⟩
          · simp only [↓reduceIte, e0, Option.bind_some]
            exact ⟨_, _, rfl, rfl, Or.inl ⟨_, _, _, _, _, _, _, _, _, _, _, _, _, _, _, _, _, rfl, rfl, d1, d2, d3⟩⟩
          · have d3 : p2 ≤ n := d3
            have l2 := letter_ok (aTp := aTp) hn d3
            have i41 := isNext_ok (v := 41) hn d3 hT (by decide)
            simp only [↓reduceIte, e0, l2, i41, Option.bind_some]
            by_cases h41 : ltr aTp n p2 = 41
            · have hq2 : p2 < n := ltr_in (by rw [h41]; decide)
              have a7 : inb (nI (o + 1)) 6 = true := inb_t (by omega) (by omega)
              have k6 : f_X3_leave (nI (o + 1)) = some (nI o) := leave_ok (by omega)
              have k7 := copyRow_ok (show 23 + o ≠ 11 + (o + 1) by omega) M2
              simp only [h41, ↓reduceIte, e0, k6, a7, a6, hOC, nI_clamp (show o + 1 < 2 ^ 31 by omega), k7, nI_pred, q_s p2, Option.bind_some]
              refine ⟨_, _, rfl, rfl, Or.inr ⟨aOs', aOn', p2 + 1, _, bOs', bOn', wM2, wP2, v, rfl, rfl, d1.le (by omega), by omega, by omega, fun h hh => ?_, d5, fun x hx => ?_, d7⟩⟩
              · show va_up M2 (23 + o) _ (23 + o) h = _
                rw [up_s, cpr_in (by omega)]
                exact d4 h hh
              · have hx2 : Uf (11 + (o + 1)) (17 + (o + 1)) (23 + (o + 1)) x := by
                  unfold Uf at hx ⊢
                  omega
                unfold Uf at hx
                rw [← d6 x hx2]
                exact up_n _ _ (by omega)
            · have g4 := faultAt_ok (show o + 1 ≤ 5 by omega) ztc aTs aTn aOs' aOn' (-1) (nI p2)
              have g5 := faulty_ok (show o + 1 ≤ 5 by omega) bOs' bOn' bSo bNu ytr 0 (-1) (nI p2)
              simp only [h41, ↓reduceIte, g4, g5, Option.bind_some]
              exact ⟨_, _, rfl, rfl, Or.inl (rdF_told (show o + 1 ≤ 5 by omega) d1 (by omega) aTs aTn bSo bNu aOs' aOn' bOs' bOn' _ _ _ (fun x hx => d6 x (Or.inl hx)) wM2 wP2)⟩
      · simp only [h40, ↓reduceIte, f4, f5, Option.bind_some]
        exact ⟨_, _, rfl, rfl, Or.inl (rdF_told ho hO (by omega) aTs aTn bSo bNu aOs aOn bOs bOn _ _ _ (fun _ _ => rfl) wMa wPr)⟩

