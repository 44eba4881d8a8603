/-! READ: a product, a sum -/
set_option maxRecDepth 8000 in
theorem lp_pr {P E g n o r : Nat} {aF bPo bTb aTp bTp : Nat → Int32} {RS4 : R4} {RS5 : R5} (hV : Vd P E g) (hF : TF P E g aF) (hW : PW P g bPo) (hTb : TB P E g bTb) (hn : n ≤ 80) (hT : TP n aTp bTp) (ho : o ≤ 5) (hr : r < 18) (hRS : o < 5 → SumSim P E n aF bPo bTb aTp bTp RS4 RS5 (o + 1) (r + 1)) (ztc : Int32) (aTs aTn bSo bNu : Nat → Int32) (ytr : Int32) (M0 : Nat → Nat → Int64) (W0 : Nat → Int64) (p0 : Nat) : ∀ (fu j p : Nat) (aOs aOn : Nat → Int32) (M : Nat → Nat → Int64) (bOs bOn : Nat → Int32) (wMa wPr v : Nat → Int64), n + 1 - p < fu → j < p → p0 ≤ p → p ≤ n → OP o aOs aOn bOs bOn → MR E (17 + o) M v → FR E r wMa v → KM (12 + o) (17 + o) (23 + o) M0 M → KW E r W0 wMa →
    ∃ zc zr, f_X1_readProduct_L27 RS4 (nI E) aF aTp (nI n) (nI o) fu ztc aTs aTn (nI o) aOs aOn (nI p) (-1) M (nI j) = some zc ∧ f_X5_productTold_L5 RS5 (nI P) (nI E) bPo bTb bTp (nI n) (nI r) fu bOs bOn (nI o) bSo bNu ytr 0 wMa wPr (nI p) (-1) = some zr ∧ (RdF M0 zc zr ∨ RdO E n o (17 + o) r (12 + o) (17 + o) (23 + o) p0 ztc aTs aTn bSo bNu ytr M0 W0 zc zr) := by
  have hb := hV.bd
  have e0 : ¬ (1 : Int32) = 0 := by decide
  have a6 : inb (nI o) 6 = true := inb_t (by omega) (by omega)
  have hOC : (nI o).toNatClampNeg = o := nI_clamp (by omega)
  intro fu
  induction fu with
  | zero => intro j p aOs aOn M bOs bOn wMa wPr v g1; exact absurd g1 (Nat.not_lt_zero _)
  | succ fu ih =>
    intro j p aOs aOn M bOs bOn wMa wPr v g1 g2 g3 g4 hO hM hR hKM hKW
    obtain ⟨fu2, rfl⟩ : ∃ fu2, fu = fu2 + 1 := ⟨fu - 1, by omega⟩
    have n80 : ¬ (80 : Int32) ≤ nI j := q_nle (a := 80) (by omega) (by omega) (by omega)
    rw [f_X1_readProduct_L27, f_X5_productTold_L5, if_neg n80, if_pos rfl, letter_ok hn g4, Option.bind_some, isNext_ok hn g4 hT (by decide), Option.bind_some]
    by_cases h42 : ltr aTp n p = 42
    · have hq : p < n := ltr_in (by rw [h42]; decide)
      obtain ⟨zc, zr, c1, c2, c3⟩ := part_sim (r := r + 1) (aF := aF) (bPo := bPo) (bTb := bTb) hV hn hT ho (by omega) hRS ztc aTs aTn aOs aOn M bOs bOn bSo bNu ytr wMa wPr (p + 1) (by omega) hO
      have c1 : f_X1_readPart RS4 (nI E) aF ztc aTs aTn (nI o) aOs aOn aTp (nI n) (nI (p + 1)) (-1) M (nI o) = some zc := c1
      have c2 : f_X5_part RS5 (nI P) (nI E) bPo bTb bOs bOn (nI o) bSo bNu ytr 0 wMa wPr bTp (nI n) (nI (p + 1)) (-1) (nI (r + 1)) = some zr := c2
      rw [if_pos h42, if_pos h42, if_neg e0, q_s p, q_s r, c1, Option.bind_some, c2, Option.bind_some]
      rcases c3 with ⟨ztc', aTs', aTn', aOs', aOn', zpl', zfa', M', bOs', bOn', yop', bSo', bNu', ytr', wMa', wPr', ypl', rfl, rfl, d1, d2, d3⟩ | ⟨aOs', aOn', p2, M2, bOs', bOn', wM2, wP2, b, rfl, rfl, d1, d2, d3, d4, d5, d6, d7⟩
      · dsimp only
        rw [if_pos rfl, if_neg e0, f_X5_productTold_L5, if_neg e0]
        exact ⟨_, _, rfl, rfl, Or.inl ⟨_, _, _, _, _, _, _, _, _, _, _, _, _, _, _, _, _, rfl, rfl, d1, d2, fun x hx => (d3 x hx).trans (hKM x (Or.inl hx))⟩⟩
      · dsimp only
        have d3 : p2 ≤ n := d3
        rw [if_neg e0, if_pos a6, if_pos a6, if_pos a6, if_pos rfl, hOC]
        have m1 : MR E (17 + o) M2 v := fun h hh => by rw [d6 (17 + o) (by unfold Uf; omega)]; exact hM h hh
        have m2 : FR E r wM2 v := d7.row (by omega) hR
        rcases multiply_sim (r1 := 17 + o) (r2 := 23 + o) (r3 := 17 + o) (ra := r) (rb := r + 1) (o := o) hV (by omega) (by omega) (by omega) (by omega) (by omega) ho hF hW hTb ztc aTs aTn d1 bSo bNu ytr (M := M2) (wMa := wM2) wP2 m1 d4 m2 d5 with ⟨ztc', aTs', aTn', M', bSo', bNu', ytr', wMa', wPr', k1, k2, k3, k4⟩ | ⟨M', wMa', wPr', w, k1, k2, k3, k4, k5, k6⟩
        · rw [k1, k2, Option.bind_some, Option.bind_some]
          dsimp only
          rw [if_pos rfl, f_X5_productTold_L5, if_neg e0]
          exact ⟨_, _, rfl, rfl, Or.inl ⟨_, _, _, _, _, _, _, _, _, _, _, _, _, _, _, _, _, rfl, rfl, k3, Or.inl rfl, fun x hx => ((k4 x (by omega)).trans (d6 x (Or.inl hx))).trans (hKM x (Or.inl hx))⟩⟩
        · rw [k1, k2, Option.bind_some, Option.bind_some]
          dsimp only
          rw [if_neg e0, q_s j]
          exact ih (j + 1) p2 aOs' aOn' M' bOs' bOn' wMa' wPr' w (by omega) (by omega) (by omega) d3 d1 k3 k4 (fun x hx => by
            have hx2 : Uf (12 + o) (18 + o) (23 + o) x := by
              unfold Uf at hx ⊢
              omega
            rw [k5 x (by unfold Uf at hx; omega) (by unfold Uf at hx; omega), d6 x hx2]
            exact hKM x hx) ((hKW.trans d7 (by omega)).trans (KW.of_FO (by omega) k6) (Nat.le_refl _))
    · rw [if_neg h42, if_neg h42, if_pos rfl]
      exact ⟨_, _, rfl, rfl, Or.inr ⟨aOs, aOn, p, M, bOs, bOn, wMa, wPr, v, rfl, rfl, hO, g3, g4, hM, hR, hKM, hKW⟩⟩
set_option maxRecDepth 8000 in
theorem product_sim {P E g n o r : Nat} {aF bPo bTb aTp bTp : Nat → Int32} {RS4 : R4} {RS5 : R5} (hV : Vd P E g) (hF : TF P E g aF) (hW : PW P g bPo) (hTb : TB P E g bTb) (hn : n ≤ 80) (hT : TP n aTp bTp) (ho : o ≤ 5) (hr : r < 18) (hRS : o < 5 → ∀ r', r' ≤ r + 1 → SumSim P E n aF bPo bTb aTp bTp RS4 RS5 (o + 1) r') :
    SimG E n o (17 + o) r (12 + o) (17 + o) (23 + o) (fun ztc aTs aTn zoc aOs aOn zpl zfa M => f_X1_readProduct RS4 (nI E) aF ztc aTs aTn zoc aOs aOn aTp (nI n) zpl zfa M (nI o)) (fun bOs bOn yop bSo bNu ytr yiw wMa wPr ypl yfa => f_X5_productTold RS5 (nI P) (nI E) bPo bTb bOs bOn yop bSo bNu ytr yiw wMa wPr bTp (nI n) ypl yfa (nI r)) := by
  intro ztc aTs aTn aOs aOn M bOs bOn bSo bNu ytr wMa wPr p hp hO
  show ∃ zc zr, f_X1_readProduct RS4 (nI E) aF ztc aTs aTn (nI o) aOs aOn aTp (nI n) (nI p) (-1) M (nI o) = some zc ∧ f_X5_productTold RS5 (nI P) (nI E) bPo bTb bOs bOn (nI o) bSo bNu ytr 0 wMa wPr bTp (nI n) (nI p) (-1) (nI r) = some zr ∧ (RdF M zc zr ∨ RdO E n o (17 + o) r (12 + o) (17 + o) (23 + o) (p + 1) ztc aTs aTn bSo bNu ytr M wMa zc zr)
  have hb := hV.bd
  have e0 : ¬ (1 : Int32) = 0 := by decide
  have a6 : inb (nI o) 6 = true := inb_t (by omega) (by omega)
  have hOC : (nI o).toNatClampNeg = o := nI_clamp (by omega)
  unfold f_X1_readProduct f_X5_productTold
  obtain ⟨zc, zr, c1, c2, c3⟩ := part_sim (r := r) (aF := aF) (bPo := bPo) (bTb := bTb) hV hn hT ho (by omega) (fun h => hRS h r (by omega)) ztc aTs aTn aOs aOn M bOs bOn bSo bNu ytr wMa wPr p hp hO
  have c1 : f_X1_readPart RS4 (nI E) aF ztc aTs aTn (nI o) aOs aOn aTp (nI n) (nI p) (-1) M (nI o) = some zc := c1
  have c2 : f_X5_part RS5 (nI P) (nI E) bPo bTb bOs bOn (nI o) bSo bNu ytr 0 wMa wPr bTp (nI n) (nI p) (-1) (nI r) = some zr := c2
  rw [c1, Option.bind_some, c2, Option.bind_some]
  rcases c3 with ⟨ztc', aTs', aTn', aOs', aOn', zpl', zfa', M', bOs', bOn', yop', bSo', bNu', ytr', wMa', wPr', ypl', rfl, rfl, d1, d2, d3⟩ | ⟨aOs', aOn', p2, M2, bOs', bOn', wM2, wP2, b, rfl, rfl, d1, d2, d3, d4, d5, d6, d7⟩
  · dsimp only
    rw [if_pos rfl, show FU = 1999 + 1 from rfl, f_X5_productTold_L5, if_neg e0]
    exact ⟨_, _, rfl, rfl, Or.inl ⟨_, _, _, _, _, _, _, _, _, _, _, _, _, _, _, _, _, rfl, rfl, d1, d2, d3⟩⟩
  · dsimp only
    rw [if_neg e0, if_pos a6, if_pos a6, hOC, copyRow_ok (show 17 + o ≠ 23 + o by omega), Option.bind_some, show (0 : Int32) = nI 0 from rfl]
    refine lp_pr hV hF hW hTb hn hT ho hr (fun h => hRS h (r + 1) (Nat.le_refl _)) ztc aTs aTn bSo bNu ytr M wMa (p + 1) FU 0 p2 aOs' aOn' _ bOs' bOn' wM2 wP2 b (by show _ < 2000; omega) (by omega) d2 d3 d1 (fun h hh => ?_) d5 (fun x hx => ?_) d7
    · rw [up_s, cpr_in (by omega)]
      exact d4 h hh
    · have hx2 : Uf (12 + o) (18 + o) (23 + o) x := by
        unfold Uf at hx ⊢
        omega
      rw [up_n _ _ (show x ≠ 17 + o by unfold Uf at hx; omega)]
      exact d6 x hx2
theorem isSign_ok (c : Int32) : f_X1_isSign c = some (if c = 43 ∨ c = 45 then 1 else 0) := by
  unfold f_X1_isSign
  by_cases h1 : c = 43
  · rw [if_pos h1, if_pos (Or.inl h1)]
  · by_cases h2 : c = 45
    · rw [if_neg h1, if_pos h2, if_pos (Or.inr h2)]
    · rw [if_neg h1, if_neg h2, if_neg (fun w => w.elim h1 h2)]
set_option maxRecDepth 8000 in
theorem join_sim {E o r : Nat} (hE : E ≤ 12) (ho : o ≤ 5) (hr : r < 30) (ad : Bool) {a b : Nat → Int64} (ztc : Int32) (aTs aTn : Nat → Int32) {aOs aOn bOs bOn : Nat → Int32} (hO : OP o aOs aOn bOs bOn) (bSo bNu : Nat → Int32) (ytr : Int32) {M : Nat → Nat → Int64} {wMa : Nat → Int64} (ha : MR E (11 + o) M a) (hb : MR E (17 + o) M b) (ha5 : FR E r wMa a) (hb5 : FR E (r + 1) wMa b) :
    (∃ ztc' aTs' aTn' M' bSo' bNu' ytr' wMa', f_X1_joinProduct (nI E) ztc aTs aTn (nI o) aOs aOn M (if ad = true then 1 else 0) (nI o) = some (0, ztc', aTs', aTn', 0, M') ∧ f_X5_adds (nI E) bOs bOn (nI o) bSo bNu ytr 0 wMa (nI r) (nI (r + 1)) (if ad = true then 0 else 1) = some (bSo', bNu', ytr', 1, wMa') ∧ RelT ztc' aTs' aTn' 0 bSo' bNu' ytr' ∧ ∀ r, r ≠ 29 → M' r = M r) ∨
    (∃ M' wMa' v, f_X1_joinProduct (nI E) ztc aTs aTn (nI o) aOs aOn M (if ad = true then 1 else 0) (nI o) = some (1, ztc, aTs, aTn, nI o, M') ∧ f_X5_adds (nI E) bOs bOn (nI o) bSo bNu ytr 0 wMa (nI r) (nI (r + 1)) (if ad = true then 0 else 1) = some (bSo, bNu, ytr, 0, wMa') ∧ MR E (11 + o) M' v ∧ FR E r wMa' v ∧ (∀ x, x ≠ 29 → x ≠ 11 + o → M' x = M x) ∧ FO E r wMa wMa') := by
  have e0 : ¬ (1 : Int32) = 0 := by decide
  have a6 : inb (nI o) 6 = true := inb_t (by omega) (by omega)
  have hOC : (nI o).toNatClampNeg = o := nI_clamp (by omega)
  unfold f_X1_joinProduct
  rw [hOC]
  cases ad with
  | true =>
    have q1 : (if true = true then (1 : Int32) else 0) = 1 := rfl
    have q2 : (if true = true then (0 : Int32) else 1) = 0 := rfl
    rw [q1, q2, if_neg e0, if_pos a6, if_pos a6, if_pos a6]
    rcases sum_sim (r1 := 11 + o) (r2 := 17 + o) (r3 := 11 + o) (ra := r) (rb := r + 1) (o := o) hE (by omega) (by omega) (by omega) (by omega) (by omega) (by omega) ho ztc aTs aTn hO bSo bNu ytr ha hb ha5 hb5 with ⟨ztc', aTs', aTn', M', bSo', bNu', ytr', wMa', k1, k2, k3, k4⟩ | ⟨M', wMa', w, k1, k2, k3, k4, k5, k6⟩
    · exact Or.inl ⟨ztc', aTs', aTn', M', bSo', bNu', ytr', wMa', bind_of k1 _, k2, k3, k4⟩
    · exact Or.inr ⟨M', wMa', w, bind_of k1 _, k2, k3, k4, k5, k6⟩
  | false =>
    have q1 : (if false = true then (1 : Int32) else 0) = 0 := rfl
    have q2 : (if false = true then (0 : Int32) else 1) = 1 := rfl
    rw [q1, q2, if_pos rfl, if_pos a6, if_pos a6, if_pos a6]
    rcases difference_sim (r1 := 11 + o) (r2 := 17 + o) (r3 := 11 + o) (ra := r) (rb := r + 1) (o := o) hE (by omega) (by omega) (by omega) (by omega) (by omega) (by omega) ho ztc aTs aTn hO bSo bNu ytr ha hb ha5 hb5 with ⟨ztc', aTs', aTn', M', bSo', bNu', ytr', wMa', k1, k2, k3, k4⟩ | ⟨M', wMa', w, k1, k2, k3, k4, k5, k6⟩
    · exact Or.inl ⟨ztc', aTs', aTn', M', bSo', bNu', ytr', wMa', bind_of k1 _, k2, k3, k4⟩
    · exact Or.inr ⟨M', wMa', w, bind_of k1 _, k2, k3, k4, k5, k6⟩

