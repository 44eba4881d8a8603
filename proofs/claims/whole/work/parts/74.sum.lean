/-! READ: a sum; all of a text -/
set_option maxRecDepth 8000 in
theorem lp_su {P E g n o r : Nat} {aF bPo bTb aTp bTp : Nat → Int32} {RS4 : R4} {RS5 : R5} (hV : Vd P E g) (hF : TF P E g aF) (hW : PW P g bPo) (hTb : TB P E g bTb) (hn : n ≤ 80) (hT : TP n aTp bTp) (ho : o ≤ 5) (hr : r < 16) (hRS : o < 5 → ∀ r', r' ≤ r + 1 + 1 → SumSim P E n aF bPo bTb aTp bTp RS4 RS5 (o + 1) r') (ztc : Int32) (aTs aTn bSo bNu : Nat → Int32) (ytr : Int32) (M0 : Nat → Nat → Int64) (W0 : Nat → Int64) (p0 : Nat) : ∀ (fu j p : Nat) (aOs aOn : Nat → Int32) (M : Nat → Nat → Int64) (bOs bOn : Nat → Int32) (wMa wPr v : Nat → Int64), n + 1 - p < fu → j < p → p0 ≤ p → p ≤ n → OP o aOs aOn bOs bOn → MR E (11 + o) M v → FR E r wMa v → KM (11 + o) (17 + o) (23 + o) M0 M → KW E r W0 wMa →
    ∃ zc zr, f_X1_readSum_L27 RS4 (nI E) aF aTp (nI n) (nI o) fu ztc aTs aTn (nI o) aOs aOn (nI p) (-1) M (nI j) = some zc ∧ f_X5_sum_L5 RS5 (nI P) (nI E) bPo bTb bTp (nI n) (nI r) fu bOs bOn (nI o) bSo bNu ytr 0 wMa wPr (nI p) (-1) = some zr ∧ (RdF M0 zc zr ∨ RdO E n o (11 + o) r (11 + o) (17 + o) (23 + o) p0 ztc aTs aTn bSo bNu ytr M0 W0 zc zr) := by
  have hb := hV.bd
  have e0 : ¬ (1 : Int32) = 0 := by decide
  intro fu
  induction fu with
  | zero => intro j p aOs aOn M bOs bOn wMa wPr v g1; exact absurd g1 (Nat.not_lt_zero _)
  | succ fu ih =>
    intro j p aOs aOn M bOs bOn wMa wPr v g1 g2 g3 g4 hO hM hR hKM hKW
    obtain ⟨fu2, rfl⟩ : ∃ fu2, fu = fu2 + 1 := ⟨fu - 1, by omega⟩
    have n80 : ¬ (80 : Int32) ≤ nI j := q_nle (a := 80) (by omega) (by omega) (by omega)
    have i43 := isNext_ok (v := 43) hn g4 hT (by decide)
    have i45 := isNext_ok (v := 45) hn g4 hT (by decide)
    rw [f_X1_readSum_L27, f_X5_sum_L5, if_neg n80, if_pos rfl, letter_ok hn g4, Option.bind_some, isSign_ok, Option.bind_some, i43, Option.bind_some]
    by_cases h43 : ltr aTp n p = 43
    · have hq : p < n := ltr_in (by rw [h43]; decide)
      have h45 : ¬ ltr aTp n p = 45 := by rw [h43]; decide
      rw [if_pos (Or.inl h43), if_neg e0, Option.bind_some, if_pos h43, if_pos h43, if_neg e0, i45, if_neg h45, Option.bind_some]
      obtain ⟨zc, zr, c1, c2, c3⟩ := product_sim (r := r + 1) (aF := aF) (bPo := bPo) (bTb := bTb) hV hF hW hTb hn hT ho (by omega) hRS ztc aTs aTn aOs aOn M bOs bOn bSo bNu ytr wMa wPr (p + 1) (by omega) hO
      have c1 : f_X1_readProduct RS4 (nI E) aF ztc aTs aTn (nI o) aOs aOn aTp (nI n) (nI (p + 1)) (-1) M (nI o) = some zc := c1
      have c2 : f_X5_productTold RS5 (nI P) (nI E) bPo bTb bOs bOn (nI o) bSo bNu ytr 0 wMa wPr bTp (nI n) (nI (p + 1)) (-1) (nI (r + 1)) = some zr := c2
      rw [q_s p, q_s r, c1, Option.bind_some, c2, Option.bind_some]
      rcases c3 with ⟨ztc', aTs', aTn', aOs', aOn', zpl', zfa', M', bOs', bOn', yop', bSo', bNu', ytr', wMa', wPr', ypl', rfl, rfl, d1, d2, d3⟩ | ⟨aOs', aOn', p2, M2, bOs', bOn', wM2, wP2, b, rfl, rfl, d1, d2, d3, d4, d5, d6, d7⟩
      · dsimp only
        rw [if_pos rfl, if_neg e0, f_X5_sum_L5, if_neg e0]
        exact ⟨_, _, rfl, rfl, Or.inl ⟨_, _, _, _, _, _, _, _, _, _, _, _, _, _, _, _, _, rfl, rfl, d1, d2, fun x hx => (d3 x hx).trans (hKM x (Or.inl hx))⟩⟩
      · dsimp only
        have d3 : p2 ≤ n := d3
        rw [if_neg e0, if_pos rfl]
        have m1 : MR E (11 + o) M2 v := fun h hh => by rw [d6 (11 + o) (by unfold Uf; omega)]; exact hM h hh
        have m2 : FR E r wM2 v := d7.row (by omega) hR
        rcases join_sim (o := o) (r := r) (by omega) ho (by omega) true ztc aTs aTn d1 bSo bNu ytr (M := M2) (wMa := wM2) m1 d4 m2 d5 with ⟨ztc', aTs', aTn', M', bSo', bNu', ytr', wMa', k1, k2, k3, k4⟩ | ⟨M', wMa', w, k1, k2, k3, k4, k5, k6⟩
        · simp only [↓reduceIte, Bool.false_eq_true] at k1 k2
          rw [k1, k2, Option.bind_some, Option.bind_some]
          dsimp only
          rw [if_pos rfl, f_X5_sum_L5, if_neg e0]
          exact ⟨_, _, rfl, rfl, Or.inl ⟨_, _, _, _, _, _, _, _, _, _, _, _, _, _, _, _, _, rfl, rfl, k3, Or.inl rfl, fun x hx => ((k4 x (by omega)).trans (d6 x (Or.inl hx))).trans (hKM x (Or.inl hx))⟩⟩
        · simp only [↓reduceIte, Bool.false_eq_true] at k1 k2
          rw [k1, k2, Option.bind_some, Option.bind_some]
          dsimp only
          rw [if_neg e0, q_s j]
          exact ih (j + 1) p2 aOs' aOn' M' bOs' bOn' wMa' wP2 w (by omega) (by omega) (by omega) d3 d1 k3 k4 (fun x hx => by
            have hx2 : Uf (12 + o) (17 + o) (23 + o) x := by
              unfold Uf at hx ⊢
              omega
            rw [k5 x (by unfold Uf at hx; omega) (by unfold Uf at hx; omega), d6 x hx2]
            exact hKM x hx) ((hKW.trans d7 (by omega)).trans (KW.of_FO (by omega) k6) (Nat.le_refl _))
    · by_cases h45 : ltr aTp n p = 45
      · have hq : p < n := ltr_in (by rw [h45]; decide)
        rw [if_pos (Or.inr h45), if_neg e0, Option.bind_some, if_neg h43, if_neg h43, if_pos rfl, i45, if_pos h45, Option.bind_some, if_neg e0, Option.bind_some]
        obtain ⟨zc, zr, c1, c2, c3⟩ := product_sim (r := r + 1) (aF := aF) (bPo := bPo) (bTb := bTb) hV hF hW hTb hn hT ho (by omega) hRS ztc aTs aTn aOs aOn M bOs bOn bSo bNu ytr wMa wPr (p + 1) (by omega) hO
        have c1 : f_X1_readProduct RS4 (nI E) aF ztc aTs aTn (nI o) aOs aOn aTp (nI n) (nI (p + 1)) (-1) M (nI o) = some zc := c1
        have c2 : f_X5_productTold RS5 (nI P) (nI E) bPo bTb bOs bOn (nI o) bSo bNu ytr 0 wMa wPr bTp (nI n) (nI (p + 1)) (-1) (nI (r + 1)) = some zr := c2
        rw [q_s p, q_s r, c1, Option.bind_some, c2, Option.bind_some]
        rcases c3 with ⟨ztc', aTs', aTn', aOs', aOn', zpl', zfa', M', bOs', bOn', yop', bSo', bNu', ytr', wMa', wPr', ypl', rfl, rfl, d1, d2, d3⟩ | ⟨aOs', aOn', p2, M2, bOs', bOn', wM2, wP2, b, rfl, rfl, d1, d2, d3, d4, d5, d6, d7⟩
        · dsimp only
          rw [if_pos rfl, if_neg e0, f_X5_sum_L5, if_neg e0]
          exact ⟨_, _, rfl, rfl, Or.inl ⟨_, _, _, _, _, _, _, _, _, _, _, _, _, _, _, _, _, rfl, rfl, d1, d2, fun x hx => (d3 x hx).trans (hKM x (Or.inl hx))⟩⟩
        · dsimp only
          have d3 : p2 ≤ n := d3
          rw [if_neg e0, if_pos rfl]
          have m1 : MR E (11 + o) M2 v := fun h hh => by rw [d6 (11 + o) (by unfold Uf; omega)]; exact hM h hh
          have m2 : FR E r wM2 v := d7.row (by omega) hR
          rcases join_sim (o := o) (r := r) (by omega) ho (by omega) false ztc aTs aTn d1 bSo bNu ytr (M := M2) (wMa := wM2) m1 d4 m2 d5 with ⟨ztc', aTs', aTn', M', bSo', bNu', ytr', wMa', k1, k2, k3, k4⟩ | ⟨M', wMa', w, k1, k2, k3, k4, k5, k6⟩
          · simp only [↓reduceIte, Bool.false_eq_true] at k1 k2
            rw [k1, k2, Option.bind_some, Option.bind_some]
            dsimp only
            rw [if_pos rfl, f_X5_sum_L5, if_neg e0]
            exact ⟨_, _, rfl, rfl, Or.inl ⟨_, _, _, _, _, _, _, _, _, _, _, _, _, _, _, _, _, rfl, rfl, k3, Or.inl rfl, fun x hx => ((k4 x (by omega)).trans (d6 x (Or.inl hx))).trans (hKM x (Or.inl hx))⟩⟩
          · simp only [↓reduceIte, Bool.false_eq_true] at k1 k2
            rw [k1, k2, Option.bind_some, Option.bind_some]
            dsimp only
            rw [if_neg e0, q_s j]
            exact ih (j + 1) p2 aOs' aOn' M' bOs' bOn' wMa' wP2 w (by omega) (by omega) (by omega) d3 d1 k3 k4 (fun x hx => by
              have hx2 : Uf (12 + o) (17 + o) (23 + o) x := by
                unfold Uf at hx ⊢
                omega
              rw [k5 x (by unfold Uf at hx; omega) (by unfold Uf at hx; omega), d6 x hx2]
              exact hKM x hx) ((hKW.trans d7 (by omega)).trans (KW.of_FO (by omega) k6) (Nat.le_refl _))
      · have hs : ¬ (ltr aTp n p = 43 ∨ ltr aTp n p = 45) := fun w => w.elim h43 h45
        rw [if_neg hs, if_pos rfl, if_neg h43, Option.bind_some, if_pos rfl, i45, if_neg h45, Option.bind_some, if_pos rfl]
        exact ⟨_, _, rfl, rfl, Or.inr ⟨aOs, aOn, p, M, bOs, bOn, wMa, wPr, v, rfl, rfl, hO, g3, g4, hM, hR, hKM, hKW⟩⟩
set_option maxRecDepth 8000 in
theorem sumB_sim {P E g n o r : Nat} {aF bPo bTb aTp bTp : Nat → Int32} {RS4 : R4} {RS5 : R5} (hV : Vd P E g) (hF : TF P E g aF) (hW : PW P g bPo) (hTb : TB P E g bTb) (hn : n ≤ 80) (hT : TP n aTp bTp) (ho : o ≤ 5) (hr : r < 16) (hRS : o < 5 → ∀ r', r' ≤ r + 1 + 1 → SumSim P E n aF bPo bTb aTp bTp RS4 RS5 (o + 1) r') :
    SumSim P E n aF bPo bTb aTp bTp (f_X1_readSumB RS4) (f_X5_sumB RS5) o r := by
  intro ztc aTs aTn aOs aOn M bOs bOn bSo bNu ytr wMa wPr p hp hO
  show ∃ zc zr, f_X1_readSumB RS4 (nI E) aF ztc aTs aTn (nI o) aOs aOn aTp (nI n) (nI p) (-1) M (nI o) = some zc ∧ f_X5_sumB RS5 (nI P) (nI E) bPo bTb bOs bOn (nI o) bSo bNu ytr 0 wMa wPr bTp (nI n) (nI p) (-1) (nI r) = some zr ∧ (RdF M zc zr ∨ RdO E n o (11 + o) r (11 + o) (17 + o) (23 + o) (p + 1) ztc aTs aTn bSo bNu ytr M wMa zc zr)
  have hb := hV.bd
  have e0 : ¬ (1 : Int32) = 0 := by decide
  have a6 : inb (nI o) 6 = true := inb_t (by omega) (by omega)
  have hOC : (nI o).toNatClampNeg = o := nI_clamp (by omega)
  unfold f_X1_readSumB f_X5_sumB
  obtain ⟨zc, zr, c1, c2, c3⟩ := product_sim (r := r) (aF := aF) (bPo := bPo) (bTb := bTb) hV hF hW hTb hn hT ho (by omega) (fun h r' hr' => hRS h r' (by omega)) ztc aTs aTn aOs aOn M bOs bOn bSo bNu ytr wMa wPr p hp hO
  have c1 : f_X1_readProduct RS4 (nI E) aF ztc aTs aTn (nI o) aOs aOn aTp (nI n) (nI p) (-1) M (nI o) = some zc := c1
  have c2 : f_X5_productTold RS5 (nI P) (nI E) bPo bTb bOs bOn (nI o) bSo bNu ytr 0 wMa wPr bTp (nI n) (nI p) (-1) (nI r) = some zr := c2
  rw [c1, Option.bind_some, c2, Option.bind_some]
  rcases c3 with ⟨ztc', aTs', aTn', aOs', aOn', zpl', zfa', M', bOs', bOn', yop', bSo', bNu', ytr', wMa', wPr', ypl', rfl, rfl, d1, d2, d3⟩ | ⟨aOs', aOn', p2, M2, bOs', bOn', wM2, wP2, b, rfl, rfl, d1, d2, d3, d4, d5, d6, d7⟩
  · dsimp only
    rw [if_pos rfl, show FU = 1999 + 1 from rfl, f_X5_sum_L5, if_neg e0]
    exact ⟨_, _, rfl, rfl, Or.inl ⟨_, _, _, _, _, _, _, _, _, _, _, _, _, _, _, _, _, rfl, rfl, d1, d2, d3⟩⟩
  · dsimp only
    rw [if_neg e0, if_pos a6, if_pos a6, hOC, copyRow_ok (show 11 + o ≠ 17 + o by omega), Option.bind_some, show (0 : Int32) = nI 0 from rfl]
    refine lp_su hV hF hW hTb hn hT ho hr hRS ztc aTs aTn bSo bNu ytr M wMa (p + 1) FU 0 p2 aOs' aOn' _ bOs' bOn' wM2 wP2 b (by show _ < 2000; omega) (by omega) d2 d3 d1 (fun h hh => ?_) d5 (fun x hx => ?_) d7
    · rw [up_s, cpr_in (by omega)]
      exact d4 h hh
    · have hx2 : Uf (12 + o) (17 + o) (23 + o) x := by
        unfold Uf at hx ⊢
        omega
      rw [up_n _ _ (show x ≠ 11 + o by unfold Uf at hx; omega)]
      exact d6 x hx2
set_option maxRecDepth 8000 in
theorem readSum_sim {P E g n : Nat} {aF bPo bTb aTp bTp : Nat → Int32} (hV : Vd P E g) (hF : TF P E g aF) (hW : PW P g bPo) (hTb : TB P E g bTb) (hn : n ≤ 80) (hT : TP n aTp bTp) : ∀ (d o r : Nat), 6 ≤ d + o → o ≤ 5 → r ≤ 2 * o → SumSim P E n aF bPo bTb aTp bTp (f_X1_readSum d) (f_X5_sum d) o r
  | 0, o, r, h1, h2, h3 => absurd h1 (by omega)
  | d + 1, o, r, h1, h2, h3 => by
    have k := sumB_sim (o := o) (r := r) (RS4 := f_X1_readSum d) (RS5 := f_X5_sum d) hV hF hW hTb hn hT h2 (by omega) (fun h r' hr' => readSum_sim hV hF hW hTb hn hT d (o + 1) r' (by omega) (by omega) (by omega))
    intro ztc aTs aTn aOs aOn M bOs bOn bSo bNu ytr wMa wPr p hp hO
    exact k ztc aTs aTn aOs aOn M bOs bOn bSo bNu ytr wMa wPr p hp hO

