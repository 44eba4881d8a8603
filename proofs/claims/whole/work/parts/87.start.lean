/-! THE LAW FROM ITS ENTRY, printed by wip/whole/genstart.py -/
theorem NWs_tbl : ∀ w ∈ NWs, w ∈ lw_tbl := by decide +kernel
theorem aov_tbl : Cond.arrayOver (.array .long) ∈ lw_tbl := List.mem_of_getElem? (i := 269) (by decide +kernel)
set_option maxHeartbeats 8000000 in
set_option maxRecDepth 100000 in
theorem whole_start {p : Program} {e : Env} {s : State} {m : MethodId} {below : List Frame} {meth : Method} {c : Code} (l : Launch) (hflags : l.flags = flags0) {b L : Nat} {xs : Nat → Int32} (hL : L ≤ 2560) (C0 : lw_At p s m meth c b L xs) : W p l e room_1 s m #[Value.ref b] below meth c s.heap [] 0 0 (lw_Z below #[Value.ref b] s) (entryFrame m ([Value.ref b] : List Value).toArray 4) := by
  obtain ⟨hx, hb, hr, hml, hown, hts, hX, hbl, hlocks, hgv⟩ := C0
  have hN : Nk s := by
    intro w hw
    have h1 := hts w (NWs_tbl w hw)
    obtain ⟨a, i, x, g, rfl⟩ := NWs_shape w hw
    exact va_Nw.of rfl h1
  have F : Fx p s m #[Value.ref b] meth c code 4 R_law ret := ⟨hx, hb, hml, hown, fun w hw => hts w (BG_tbl hw), hr, hlocks, hN⟩
  have hO : va_AOA .long s := hts _ aov_tbl
  obtain ⟨A, hAe⟩ : ∃ A : Nat → Prop, A = fun q : Nat => s.heap.size ≤ q := ⟨_, rfl⟩
  have hA : ∀ q : Nat, s.heap.size ≤ q → A q := fun q h => by rw [hAe]; exact h
  have hA2 : ∀ q : Nat, A q → s.heap.size ≤ q := fun q h => by rw [hAe] at h; exact h
  have hbA : ¬ A b := fun h => Nat.not_le.mpr hbl (hA2 b h)
  obtain ⟨c0, iS0, hKn0⟩ := u_known (C := RX0) (T := TX0) (N := 14) (n := 14) F.ts in_ws0 (F.ts _ (BG_in 80 (by decide +kernel) (by decide +kernel) : Cond.instantiable RX0 14 ∈ BG))
  obtain ⟨c1, iS1, hKn1⟩ := u_known (C := RX1) (T := TX1) (N := 10) (n := 10) F.ts in_ws1 (F.ts _ (BG_in 263 (by decide +kernel) (by decide +kernel) : Cond.instantiable RX1 10 ∈ BG))
  obtain ⟨c2, iS2, hKn2⟩ := u_known (C := RX2) (T := TX2) (N := 5) (n := 5) F.ts in_ws2 (F.ts _ (BG_in 241 (by decide +kernel) (by decide +kernel) : Cond.instantiable RX2 5 ∈ BG))
  obtain ⟨c3, iS3, hKn3⟩ := u_known (C := RX3) (T := TX3) (N := 6) (n := 6) F.ts in_ws3 (F.ts _ (BG_in 213 (by decide +kernel) (by decide +kernel) : Cond.instantiable RX3 6 ∈ BG))
  obtain ⟨c4, iS4, hKn4⟩ := u_known (C := RX4) (T := TX4) (N := 12) (n := 12) F.ts in_ws4 (F.ts _ (BG_in 72 (by decide +kernel) (by decide +kernel) : Cond.instantiable RX4 12 ∈ BG))
  obtain ⟨c5, iS5, hKn5⟩ := u_known (C := RX5) (T := TX5) (N := 28) (n := 28) F.ts in_ws5 (F.ts _ (BG_in 677 (by decide +kernel) (by decide +kernel) : Cond.instantiable RX5 28 ∈ BG))
  obtain ⟨dC, dI, hKc⟩ : ∃ (dC : Nat → ClassId) (dI : Nat → Nat → Nat), ∀ (k : Nat) (q : vw_C), classes[k]? = some q → u_Kn s q.1 q.2.1 q.2.2 (dC k) (dI k) := by
    refine ⟨fun k => if k = 0 then c0 else if k = 1 then c1 else if k = 2 then c2 else if k = 3 then c3 else if k = 4 then c4 else c5, fun k => if k = 0 then iS0 else if k = 1 then iS1 else if k = 2 then iS2 else if k = 3 then iS3 else if k = 4 then iS4 else iS5, ?_⟩
    intro k q hq
    match k, hq with
    | 0, hq => cases hq; exact hKn0
    | 1, hq => cases hq; exact hKn1
    | 2, hq => cases hq; exact hKn2
    | 3, hq => cases hq; exact hKn3
    | 4, hq => cases hq; exact hKn4
    | 5, hq => cases hq; exact hKn5
    | k + 6, hq => simp [classes] at hq
  obtain ⟨cI, kI, pI, fI, gI, eI⟩ := Cond.arrayClass_spec (F.ts _ karr_int)
  obtain ⟨cB, kB, pB, fB, gB, eB⟩ := Cond.arrayClass_spec (F.ts _ karr_byte)
  obtain ⟨cL, kL, pL, fL, gL, eL⟩ := Cond.arrayClass_spec (F.ts _ karr_long)
  obtain ⟨pQ, cQ, kQ, -, -, gQ, eQ, fQ⟩ := arrayOverA_spec hO
  obtain ⟨G, hG⟩ : ∃ G : GG, G = ((dC, dI), (cI, (cB, (cL, cQ)))) := ⟨_, rfl⟩
  have hK : va_K G.1 classes (ty4 G) s := by
    rw [hG]
    refine ⟨hKc, fun k q hq => ?_⟩
    match k, hq with
    | 0, hq => cases hq; exact ⟨fun N z => ⟨(fun q hq => by cases hq), kI, gI, pI, eI⟩, fI⟩
    | 1, hq => cases hq; exact ⟨fun N z => ⟨(fun q hq => by cases hq), kB, gB, pB, eB⟩, fB⟩
    | 2, hq => cases hq; exact ⟨fun N z => ⟨(fun q hq => by cases hq), kL, gL, pL, eL⟩, fL⟩
    | 3, hq => cases hq; exact ⟨fun N z => ⟨(fun q hq => by cases hq), kQ, gQ, pQ, eQ⟩, fQ⟩
    | k + 4, hq => simp [ty4] at hq
  have hw : Wd G s A [] s.heap [] := ⟨hK, fun k q h => by simp at h, ⟨fun i j p q h => by simp at h, fun k q h => by simp at h⟩, va_S.rf⟩
  have hl := lv_entry ([.ref b]) (n := 4) (Nat.le_of_ble_eq_true rfl)
  rw [lg_entry_eq]
  generalize (lg_sl ([.ref b]) ++ List.replicate (4 - (lg_sl ([.ref b])).length) Slot.unset).toArray = ls at hl ⊢
  have hl : lv_has ls 4 [(0, .ref b)] := hl
  obtain ⟨H, hH⟩ : ∃ H, H = s.heap := ⟨_, rfl⟩
  obtain ⟨locs, hlo⟩ : ∃ locs : List Loc, locs = [] := ⟨_, rfl⟩
  rw [← hH, ← hlo] at hw ⊢
  clear hH hlo
  obtain ⟨z, y, hz, hy, hR⟩ := op_init
  refine va_new (ci := 4) (fs := [.null, .null, .null, .null, .null, .null, .null, .null, .int 0, .int 0, .int 0, .int 0]) (C := RX4) (T := TX4) (N := 12) hx hb F.ts in_ws4 tyX4 tyX4_ok F.ow (F.ts _ (BG_in 71 (by decide +kernel) (by decide +kernel) : Cond.classLink R_law 7 RX4 ∈ BG)) (F.ts _ (BG_in 72 (by decide +kernel) (by decide +kernel) : Cond.instantiable RX4 12 ∈ BG)) (F.ts _ ki_4) hw.1 hw.2.1 hw.2.2.1 hw.2.2.2 hA rfl (fun j hj => by rcases (show j = 0 ∨ j = 1 ∨ j = 2 ∨ j = 3 ∨ j = 4 ∨ j = 5 ∨ j = 6 ∨ j = 7 ∨ j = 8 ∨ j = 9 ∨ j = 10 ∨ j = 11 by omega) with rfl | rfl | rfl | rfl | rfl | rfl | rfl | rfl | rfl | rfl | rfl | rfl <;> rfl) (Nat.le_of_ble_eq_true rfl) (Nat.le_of_ble_eq_true rfl) dL_law_0 (fun a4 H hP hD hS => ?_)
  have hw : Wd G s A [(a4, .inr (4, [.null, .null, .null, .null, .null, .null, .null, .null, .int 0, .int 0, .int 0, .int 0]))] H locs := ⟨hw.1, hP, hD, hS⟩
  refine lv_dup hx hb dL_law_3 rfl ?_
  refine ctI (av := []) (st0 := [.ref a4]) (wc := [(a4, .inr (4, [.null, .null, .null, .null, .null, .null, .null, .null, .int 0, .int 0, .int 0, .int 0]))]) (wr := []) F hO hw hA (k_X4_init hz) [0] [] rfl rfl (by decide) (by decide) (by decide) kin_4 ki_4 (BG_in 73 (by decide +kernel) (by decide +kernel)) kim_4 rfl kdi_4 rfl ⟨by decide, by decide⟩ hl.1 rfl (Nat.le_of_ble_eq_true rfl) dL_law_4 ⟨Nat.le_of_ble_eq_true rfl, Nat.le_of_ble_eq_true rfl⟩ (fun X5 H locs hX5 hw => ?_)
  obtain ⟨q, hq, rfl⟩ := hX5
  refine lv_astore_n (lv' := [(1, .ref a4), (0, .ref b)]) hx hb dL_law_7 rfl hl (by decide) rfl (fun ls hl => ?_)
  refine va_new (ci := 5) (fs := [.int 0, .int 0, .int 0, .null, .null, .null, .null, .null, .null, .null, .int 0, .null, .null, .int 0, .int 0, .null, .null, .null, .int 0, .int 0, .int 0, .null, .null, .int 0, .int 0, .int 0, .null, .int 0]) (C := RX5) (T := TX5) (N := 28) hx hb F.ts in_ws5 tyX5 tyX5_ok F.ow (F.ts _ (BG_in 676 (by decide +kernel) (by decide +kernel) : Cond.classLink R_law 10 RX5 ∈ BG)) (F.ts _ (BG_in 677 (by decide +kernel) (by decide +kernel) : Cond.instantiable RX5 28 ∈ BG)) (F.ts _ ki_5) hw.1 hw.2.1 hw.2.2.1 hw.2.2.2 hA rfl (fun j hj => by rcases (show j = 0 ∨ j = 1 ∨ j = 2 ∨ j = 3 ∨ j = 4 ∨ j = 5 ∨ j = 6 ∨ j = 7 ∨ j = 8 ∨ j = 9 ∨ j = 10 ∨ j = 11 ∨ j = 12 ∨ j = 13 ∨ j = 14 ∨ j = 15 ∨ j = 16 ∨ j = 17 ∨ j = 18 ∨ j = 19 ∨ j = 20 ∨ j = 21 ∨ j = 22 ∨ j = 23 ∨ j = 24 ∨ j = 25 ∨ j = 26 ∨ j = 27 by omega) with rfl | rfl | rfl | rfl | rfl | rfl | rfl | rfl | rfl | rfl | rfl | rfl | rfl | rfl | rfl | rfl | rfl | rfl | rfl | rfl | rfl | rfl | rfl | rfl | rfl | rfl | rfl | rfl <;> rfl) (Nat.le_of_ble_eq_true rfl) (Nat.le_of_ble_eq_true rfl) dL_law_8 (fun a5 H hP hD hS => ?_)
  have hw : Wd G s A ((kW G q z.1 z.2.1 z.2.2.1 z.2.2.2.1 z.2.2.2.2.1 z.2.2.2.2.2.1 z.2.2.2.2.2.2.1 z.2.2.2.2.2.2.2.1 z.2.2.2.2.2.2.2.2.1 z.2.2.2.2.2.2.2.2.2.1 z.2.2.2.2.2.2.2.2.2.2.1 z.2.2.2.2.2.2.2.2.2.2.2.1 z.2.2.2.2.2.2.2.2.2.2.2.2.1 z.2.2.2.2.2.2.2.2.2.2.2.2.2 ++ oW G q 0 (fun _ => 0) (fun _ => 0) 0 (fun _ => 0) (fun _ => 0) (fun _ => 0) 0 0 0 szI 0 0 0 0 (fun _ _ => 0)) ++ [(a5, .inr (5, [.int 0, .int 0, .int 0, .null, .null, .null, .null, .null, .null, .null, .int 0, .null, .null, .int 0, .int 0, .null, .null, .null, .int 0, .int 0, .int 0, .null, .null, .int 0, .int 0, .int 0, .null, .int 0]))]) H locs := ⟨hw.1, hP, hD, hS⟩
  refine lv_dup hx hb dL_law_11 rfl ?_
  refine ctI (av := []) (st0 := [.ref a5]) (wc := [(a5, .inr (5, [.int 0, .int 0, .int 0, .null, .null, .null, .null, .null, .null, .null, .int 0, .null, .null, .int 0, .int 0, .null, .null, .null, .int 0, .int 0, .int 0, .null, .null, .int 0, .int 0, .int 0, .null, .int 0]))]) (wr := kW G q z.1 z.2.1 z.2.2.1 z.2.2.2.1 z.2.2.2.2.1 z.2.2.2.2.2.1 z.2.2.2.2.2.2.1 z.2.2.2.2.2.2.2.1 z.2.2.2.2.2.2.2.2.1 z.2.2.2.2.2.2.2.2.2.1 z.2.2.2.2.2.2.2.2.2.2.1 z.2.2.2.2.2.2.2.2.2.2.2.1 z.2.2.2.2.2.2.2.2.2.2.2.2.1 z.2.2.2.2.2.2.2.2.2.2.2.2.2 ++ oW G q 0 (fun _ => 0) (fun _ => 0) 0 (fun _ => 0) (fun _ => 0) (fun _ => 0) 0 0 0 szI 0 0 0 0 (fun _ _ => 0)) F hO hw hA (k_X5_init hy) [58] (List.range 58) rfl rfl (by decide) (by decide) (by decide) kin_5 ki_5 (BG_in 678 (by decide +kernel) (by decide +kernel)) kim_5 rfl kdi_5 rfl ⟨by decide, by decide⟩ hl.1 rfl (Nat.le_of_ble_eq_true rfl) dL_law_12 ⟨Nat.le_of_ble_eq_true rfl, Nat.le_of_ble_eq_true rfl⟩ (fun X5 H locs hX5 hw => ?_)
  obtain ⟨q2, hq2, rfl⟩ := hX5
  refine lv_astore_n (lv' := [(2, .ref a5), (1, .ref a4), (0, .ref b)]) hx hb dL_law_15 rfl hl (by decide) rfl (fun ls hl => ?_)
  refine lv_iconst (v := 0) hx hb dL_law_16 (by decide) ?_
  refine lv_istore_n (lv' := [(3, .int 0), (2, .ref a5), (1, .ref a4), (0, .ref b)]) hx hb dL_law_17 rfl hl (by decide) rfl (fun ls hl => ?_)
  rw [← hq, ← hq2] at hl
  refine W.widen (k := 600000) (n := 7302250) (Nat.le_of_ble_eq_true rfl) (Nat.le_of_ble_eq_true rfl) ?_
  refine law_head (G := G) F hX hbl hbA hA hA2 hL (L + 1) 0 (Nat.zero_le _) (by omega) _ _ _ _ _ _ _ _ _ _ _ _ _ _ _ _ _ _ _ _ _ _ _ _ _ _ _ _ _ _ _ _ _ _ _ _ _ _ _ _ _ _ _ _ _ _ _ _ _ _ _ _ _ _ _ _ _ _ hR H locs ls ?_ (lv_sub hl [3, 2, 1, 0] rfl)
  rw [List.append_assoc] at hw
  rw [List.append_nil]
  exact hw
