/-! FRAME: one word list for every method, a world of cells, a contract that is exact (the answer and the cells behind it are given), made for functions that mirror the bytecode -/
def NWs : List Cond := [.methodLinkNest RX0 93 yX4_factorIndex RX4, .methodLinkNest RX0 103 yX4_setPeriod RX4, .methodLinkNest RX0 110 yX4_copyRow RX4, .methodLinkNest RX4 22 yX3_init RX4, .methodLinkNest RX2 45 yX4_copyRow RX4, .methodLinkNest RX2 63 yX4_factorIndex RX4, .methodLinkNest RX2 67 yX4_setWhole RX4, .methodLinkNest RX1 95 yX4_setWhole RX4, .methodLinkNest RX1 111 yX4_setPeriod RX4, .methodLinkNest RX1 59 yX4_copyRow RX4]
/-- the links among nest mates, which are no words of a list -/
def Nk (U : State) : Prop := ∀ w ∈ NWs, va_Nw w U
theorem NWs_shape : ∀ w ∈ NWs, ∃ a i x h, w = .methodLinkNest a i x h := by
  intro w hw
  simp only [NWs, List.mem_cons, List.not_mem_nil, or_false] at hw
  rcases hw with rfl | rfl | rfl | rfl | rfl | rfl | rfl | rfl | rfl | rfl <;> exact ⟨_, _, _, _, rfl⟩
theorem Nk.warm {s U : State} (hW : s.WarmedH U.vm) (h : Nk s) : Nk U := by
  intro w hw
  obtain ⟨a, i, x, g, rfl⟩ := NWs_shape w hw
  exact va_Nw.warmM hW (h _ hw)
theorem Nk.same {u U : State} (e : u.vm = U.vm) (h : Nk u) : Nk U := by
  intro w hw
  obtain ⟨a, i, x, g, rfl⟩ := NWs_shape w hw
  exact va_Nw.same rfl e (h _ hw)
abbrev GG : Type := va_G × (ClassId × (ClassId × (ClassId × ClassId)))
/-- the four classes of arrays: int, byte, long, rows of longs -/
def ty4 (G : GG) : List (ClassId × FieldType) := [(G.2.1, .int), (G.2.2.1, .byte), (G.2.2.2.1, .long), (G.2.2.2.2, .array .long)]
/-- what stays in one activation of a method -/
def Fx (p : Program) (s : State) (m : MethodId) (args : Array Value) (meth : Method) (c : Code) (cc : ByteArray) (nL : Nat) (own : String) (ret : Option FieldType) : Prop :=
  p.tables.exec = Jvm.exec ∧ c.code = cc ∧ c.maxLocals = nL ∧ s.vm.findClass own = some m.cls ∧ (∀ w ∈ BG, w.before args s = true) ∧ meth.sig.returnType = ret ∧ meth.locks = false ∧ Nk s
/-- the world at one point of an activation -/
def Wd (G : GG) (s : State) (A : Nat → Prop) (X : va_W) (H : Heap) (locs : List Loc) : Prop :=
  va_K G.1 classes (ty4 G) s ∧ va_P G.1 classes X H ∧ va_D A X ∧ va_S A s.heap H locs
def Hd (G : GG) (X : va_W) (sz : Nat) (U : State) : Prop :=
  U.heap.size = sz ∧ va_P G.1 classes X U.heap ∧ va_K G.1 classes (ty4 G) U ∧ va_D (fun _ => True) X ∧ Nk U
def Td (G : GG) (X X' : va_W) (sz : Nat) (st t : State) : Prop :=
  va_P G.1 classes X' t.heap ∧ va_K G.1 classes (ty4 G) t ∧ va_D (va_A X sz) X' ∧ va_F (va_A X sz) st t
abbrev rmOf (fr lo : Nat) : Room := { frames := fr, cells := 0, slots := 0, locals := lo }
/-- the contract: from a heap that holds X the method y returns r, and the heap holds X' -/
def Ct (l : Launch) (G : GG) (y : MethodName) (b : ByteArray) (n : Nat) (ret : Option FieldType) (fr lo : Nat) (av : List Value) (X : va_W) (r : Option Value) (X' : va_W) : Prop :=
  ∀ sz : Nat, Met l y (.code y b n ret :: BG) (rmOf fr lo) (va_Pc av (Hd G X sz)) (fun _ st oc t => oc = .returned r ∧ Td G X X' sz st t) 0 0 (va_A X sz)
/-- the end of a method's walk: with r on the stack, the world X' -/
def Ends (p : Program) (l : Launch) (e : Env) (R : Room) (s : State) (m : MethodId) (args : Array Value) (below : List Frame) (meth : Method) (c : Code) (Q : State → Prop) (cc : ByteArray) (G : GG) (A : Nat → Prop) (ret : Option FieldType) (r : Option Value) (X' : va_W) : Prop :=
  ∀ (H : Heap) (locs : List Loc) (pc : Nat) (ls : Array Slot), Wd G s A X' H locs → match ret, r with
    | some .int, some (.int v) => decode cc pc = .ok (.ireturn, 1) → W p l e R s m args below meth c H locs 0 0 Q (F0 m pc ls [.int v])
    | some .boolean, some (.int v) => (v = 0 ∨ v = 1) → decode cc pc = .ok (.ireturn, 1) → W p l e R s m args below meth c H locs 0 0 Q (F0 m pc ls [.int v])
    | some .long, some (.long v) => decode cc pc = .ok (.lreturn, 1) → W p l e R s m args below meth c H locs 0 0 Q (F0 m pc ls [.long v])
    | none, none => decode cc pc = .ok (.return_, 1) → W p l e R s m args below meth c H locs 0 0 Q (F0 m pc ls [])
    | _, _ => False
def retOk (ret : Option FieldType) (r : Option Value) : Prop := match ret, r with
  | some .int, some (.int _) => True
  | some .boolean, some (.int _) => True
  | some .long, some (.long _) => True
  | none, none => True
  | _, _ => False
theorem nz_bool {v : Int32} (h : v = 0 ∨ v = 1) : narrow .boolean (.int v) = .int v := by
  rcases h with rfl | rfl <;> rfl
section FR
variable {p : Program} {l : Launch} {e : Env} {R : Room} {s : State} {m : MethodId} {args : Array Value} {below : List Frame} {meth : Method} {c : Code} {H : Heap} {locs : List Loc} {Q : State → Prop}
variable {cc : ByteArray} {nL : Nat} {own : String} {ret : Option FieldType} {pc : Nat} {ls : Array Slot} {rest : List Value} {G : GG} {A : Nat → Prop} {X X' : va_W}
theorem Fx.x (F : Fx p s m args meth c cc nL own ret) : p.tables.exec = Jvm.exec := F.1
theorem Fx.b (F : Fx p s m args meth c cc nL own ret) : c.code = cc := F.2.1
theorem Fx.ml (F : Fx p s m args meth c cc nL own ret) : c.maxLocals = nL := F.2.2.1
theorem Fx.ow (F : Fx p s m args meth c cc nL own ret) : s.vm.findClass own = some m.cls := F.2.2.2.1
theorem Fx.ts (F : Fx p s m args meth c cc nL own ret) : ∀ w ∈ BG, w.before args s = true := F.2.2.2.2.1
theorem Fx.rt (F : Fx p s m args meth c cc nL own ret) : meth.sig.returnType = ret := F.2.2.2.2.2.1
theorem Fx.lk (F : Fx p s m args meth c cc nL own ret) : meth.locks = false := F.2.2.2.2.2.2.1
theorem Fx.nk (F : Fx p s m args meth c cc nL own ret) : Nk s := F.2.2.2.2.2.2.2
theorem Ends.of {sz : Nat} {r : Option Value} {X0 : va_W} (F : Fx p s m args meth c cc nL own ret) (hr : retOk ret r) : Ends p l e R s m args below meth c (MQ below (fun _ st oc t => oc = .returned r ∧ Td G X0 X' sz st t) args s 0 0 (va_A X0 sz)) cc G (va_A X0 sz) ret r X' := by
  intro H locs pc ls hw
  obtain ⟨hK, hP, hD, hS⟩ := hw
  have hq : ∀ t : State, t.heap = H → s.WarmedH t.vm → Td G X0 X' sz s t := fun t ht hW => ⟨by rw [ht]; exact hP, va_K.moved hW.alike hK, hD, hS.F ht⟩
  unfold retOk at hr
  split at hr
  · intro hdg
    exact W.iret F.x F.b F.rt (fun t ht hW => ⟨rfl, hq t ht hW⟩) hS.2.2 hdg F.lk
  · intro hz hdg
    exact W.zret F.x F.b F.rt (nz_bool hz) (fun t ht hW => ⟨rfl, hq t ht hW⟩) hS.2.2 hdg F.lk
  · intro hdg
    exact W.lret F.x F.b F.rt (fun t ht hW => ⟨rfl, hq t ht hW⟩) hS.2.2 hdg F.lk
  · intro hdg
    exact W.vret F.x F.b F.rt (fun t ht hW => ⟨rfl, hq t ht hW⟩) hS.2.2 hdg F.lk
  · exact hr.elim
end FR
theorem Ct.of {l : Launch} {G : GG} {y : MethodName} {b : ByteArray} {n : Nat} {ret : Option FieldType} {fr lo : Nat} {av : List Value} {X X' : va_W} {r : Option Value} (hy : plainFor y = true) (hlen : (lg_sl av).length ≤ n) (hr : retOk ret r)
    (body : ∀ (p : Program) (e : Env) (s : State) (m : MethodId) (args : Array Value) (below : List Frame) (meth : Method) (c : Code) (Q : State → Prop) (A : Nat → Prop) (ls : Array Slot), Fx p s m args meth c b n y.cls ret → Wd G s A X s.heap [] → (∀ q, s.heap.size ≤ q → A q) → Ends p l e (rmOf fr lo) s m args below meth c Q b G A ret r X' → lv_has ls n (lv_args 0 av) →
      W p l e (rmOf fr lo) s m args below meth c s.heap [] 0 0 Q (F0 m 0 ls [])) : Ct l G y b n ret fr lo av X r X' := by
  intro sz
  refine va_MetF (cc := b) (maxL := n) (ret := ret) hy rfl ?_
  intro p e s m args below meth c s₁ B hml hv
  obtain ⟨rfl, hsz, hP, hK, hD0, hN⟩ := hv
  have hts := atoms_spec (ws := .code y b n ret :: BG) B.pre
  have F : Fx p s m av.toArray meth c b n y.cls ret := ⟨B.exec, B.bytes, hml, findClass_of_methodNamed B.named, fun w hw => hts w (List.mem_cons_of_mem _ hw), B.returns, B.notSynchronized, hN⟩
  subst hsz
  have hl := lv_entry av hlen
  rw [lg_entry_eq]
  exact body p e s m av.toArray below meth c _ _ _ F ⟨hK, hP, hD0.self, va_S.rf⟩ (fun q h => Or.inr h) (Ends.of F hr) hl
section FC
variable {p : Program} {l : Launch} {e : Env} {R : Room} {s : State} {m : MethodId} {args : Array Value} {below : List Frame} {meth : Method} {c : Code} {H : Heap} {locs : List Loc} {Q : State → Prop}
variable {cc : ByteArray} {nL : Nat} {own : String} {ret : Option FieldType} {pc : Nat} {ls : Array Slot} {rest : List Value} {G : GG} {A : Nat → Prop} {X X' : va_W} {r : Option Value}
theorem Hd.blind {sz : Nat} (av : List Value) : FrameBlind (va_Pc av (Hd G X sz)) := by
  intro a U g mk q
  obtain ⟨q0, q1, qP, qK, qD, qN⟩ := q
  exact ⟨q0, q1, qP, va_K.moved (u := U) (U := U.calling g mk a) (Vm.Alike.refl U.vm) qK, qD, Nk.same (u := U) rfl qN⟩
theorem Wd.free (hw : Wd G s A X H locs) (hA : ∀ q, s.heap.size ≤ q → A q) : ∀ q, va_A X H.size q → A q := by
  obtain ⟨hK, hP, hD, hS⟩ := hw
  intro q hq
  rcases hq with ⟨k, x, hk⟩ | h
  · exact hD.2 k (q, x) hk
  · exact hA q (Nat.le_trans hS.1 h)
/-- behind a call -/
theorem Wd.back {st0 : List Value} (hw : Wd G s A X H locs) (hA : ∀ q, s.heap.size ≤ q → A q)
    (hr : va_Run p l e R s m args below meth c H locs 0 0 0 0 (F0 m pc ls rest) st0 (fun st oc t => oc = .returned r ∧ Td G X X' H.size st t) (va_A X H.size))
    (kk : ∀ (H1 : Heap) (locs1 : List Loc), Wd G s A X' H1 locs1 → W p l e R s m args below meth c H1 locs1 0 0 Q (F0 m (pc + 3) ls (r.toList ++ st0))) : W p l e R s m args below meth c H locs 0 0 Q (F0 m pc ls rest) := by
  have hF := hw.free hA
  obtain ⟨hK, hP, hD, hS⟩ := hw
  intro T hT Xs
  obtain ⟨v, st₀, t, T', L, h0, X1, hL, e1, e2, ⟨hv, hP1, hK1, hD1, hz, hk⟩, st⟩ := hr T hT Xs
  cases hv
  rw [h0] at hz hk
  have hal : s.vm.Alike t.vm := by rw [← e2]; exact X1.warmed.alike
  obtain ⟨t2, a1, b1⟩ := kk T'.heap (locs ++ L) ⟨hK, by rw [e1]; exact hP1, ⟨hD1.1, fun k q hq => hF _ (hD1.2 k q hq)⟩,
    ⟨Nat.le_trans hS.1 (by rw [e1]; exact hz), fun q h1 h2 => by rw [e1, hk q (Nat.lt_of_lt_of_le h1 hS.1) (fun z => h2 (hF q z))]; exact hS.2.1 q h1 h2, fun q hq => by
      rcases List.mem_append.mp hq with h | h
      · exact hS.2.2 q h
      · exact hF _ (hL q h)⟩⟩ T' rfl X1
  exact ⟨t2, st t2 a1, b1⟩
theorem hd_of (hw : Wd G s A X H locs) (F : Nk s) : ∀ U : State, U.heap = H → s.WarmedH U.vm → Hd G X H.size U := by
  obtain ⟨hK, hP, hD, hS⟩ := hw
  intro U hU hW
  exact ⟨by rw [hU], by rw [hU]; exact hP, va_K.moved hW.alike hK, hD.weaken (fun _ _ _ _ => trivial), F.warm hW⟩
/-- invokevirtual of a method of class C on the object at b (place q0 of the world) -/
theorem ctV {y : MethodName} {b : ByteArray} {n fr lo fr0 lo0 idx na : Nat} {ret' : Option FieldType} {av st0 : List Value} {a : Nat} {C : String} {T : u_T} {N ci : Nat} {fs : List Value}
    (F : Fx p s m args meth c cc nL own ret) (hw : Wd G s A X H locs) (hA : ∀ q, s.heap.size ≤ q → A q) (hC : Ct l G y b n ret' fr lo (.ref a :: av) X r X')
    (hin : ∀ w ∈ wsV own idx C y (.code y b n ret' :: BG), w ∈ BG) (hd : y.cls = C ∧ y.cls ≠ "java/lang/invoke/MethodHandle" ∧ y.cls ≠ "java/lang/invoke/VarHandle" ∧ (parseMethodDescriptor y.desc).map (fun d => d.parameters.length) = some na) (hna : av.length = na)
    (hR : fr + 1 ≤ fr0 ∧ 8 + (n + 11) + lo ≤ lo0) (q0 : Nat) (hq : X[q0]? = some (a, .inr (ci, fs))) (hc : classes[ci]? = some (C, T, N)) (hl : ls.size = nL) (hst : rest = av.reverse ++ .ref a :: st0) (hroom : (st0.map fun v => v.category).sum ≤ 8) (hdg : decode cc pc = .ok (.invokevirtual idx, 3))
    {st1 : List Value} (hs : r.toList ++ st0 = st1) (kk : ∀ (H1 : Heap) (locs1 : List Loc), Wd G s A X' H1 locs1 → W p l e (rmOf fr0 lo0) s m args below meth c H1 locs1 0 0 Q (F0 m (pc + 3) ls st1)) : W p l e (rmOf fr0 lo0) s m args below meth c H locs 0 0 Q (F0 m pc ls rest) := by
  refine hw.back hA (va_runV (As := av) ⟨F.x, F.b, F.ml, F.ow, F.ts⟩ (hC H.size) (cwV na F.ts (GoodIn_BG hin) rfl rfl rfl hd hR) ⟨Hd.blind _, va_recv hw.1 hw.2.1 hc hq, fun U hU hW => ⟨rfl, hd_of hw F.nk U hU hW⟩⟩ rfl hna hl hst (lv_room hroom) hdg ⟨Nat.zero_le _, Nat.zero_le _⟩) (by rw [hs]; exact kk)
/-- invokestatic of a method of the own class -/
theorem ctS {y : MethodName} {b : ByteArray} {n fr lo fr0 lo0 idx na : Nat} {ret' : Option FieldType} {av st0 : List Value}
    (F : Fx p s m args meth c cc nL own ret) (hw : Wd G s A X H locs) (hA : ∀ q, s.heap.size ≤ q → A q) (hC : Ct l G y b n ret' fr lo av X r X')
    (hin : ∀ w ∈ va_wsS own idx y (.code y b n ret' :: BG), w ∈ BG) (hd : y.cls ≠ "java/lang/invoke/MethodHandle" ∧ y.cls ≠ "java/lang/invoke/VarHandle" ∧ (parseMethodDescriptor y.desc).map (fun d => d.parameters.length) = some na) (hna : av.length = na)
    (hR : fr + 1 ≤ fr0 ∧ 8 + (n + 11) + lo ≤ lo0) (hl : ls.size = nL) (hst : rest = av.reverse ++ st0) (hroom : (st0.map fun v => v.category).sum ≤ 8) (hdg : decode cc pc = .ok (.invokestatic idx, 3))
    {st1 : List Value} (hs : r.toList ++ st0 = st1) (kk : ∀ (H1 : Heap) (locs1 : List Loc), Wd G s A X' H1 locs1 → W p l e (rmOf fr0 lo0) s m args below meth c H1 locs1 0 0 Q (F0 m (pc + 3) ls st1)) : W p l e (rmOf fr0 lo0) s m args below meth c H locs 0 0 Q (F0 m pc ls rest) := by
  refine hw.back hA (va_runS (As := av) ⟨F.x, F.b, F.ml, F.ow, F.ts⟩ (hC H.size) (va_cwS na F.ts (GoodIn_BG hin) rfl rfl rfl hd hR) ⟨Hd.blind _, fun U hU hW => ⟨rfl, hd_of hw F.nk U hU hW⟩⟩ rfl hna hl hst (lv_room hroom) hdg ⟨Nat.zero_le _, Nat.zero_le _⟩) (by rw [hs]; exact kk)
/-- invokestatic of a nest mate's private method -/
theorem ctSN {y : MethodName} {b : ByteArray} {n fr lo fr0 lo0 idx na : Nat} {ret' : Option FieldType} {av st0 : List Value} {host : String}
    (F : Fx p s m args meth c cc nL own ret) (hw : Wd G s A X H locs) (hA : ∀ q, s.heap.size ≤ q → A q) (hC : Ct l G y b n ret' fr lo av X r X')
    (hn : Cond.methodLinkNest own idx y host ∈ NWs) (hin : ∀ w ∈ .code y b n ret' :: BG, w ∈ BG) (hini : Cond.initialized y.cls ∈ BG) (hstc : Cond.static y ∈ BG) (hd : y.cls ≠ "java/lang/invoke/MethodHandle" ∧ y.cls ≠ "java/lang/invoke/VarHandle" ∧ (parseMethodDescriptor y.desc).map (fun d => d.parameters.length) = some na) (hna : av.length = na)
    (hR : fr + 1 ≤ fr0 ∧ 8 + (n + 11) + lo ≤ lo0) (hl : ls.size = nL) (hst : rest = av.reverse ++ st0) (hroom : (st0.map fun v => v.category).sum ≤ 8) (hdg : decode cc pc = .ok (.invokestatic idx, 3))
    {st1 : List Value} (hs : r.toList ++ st0 = st1) (kk : ∀ (H1 : Heap) (locs1 : List Loc), Wd G s A X' H1 locs1 → W p l e (rmOf fr0 lo0) s m args below meth c H1 locs1 0 0 Q (F0 m (pc + 3) ls st1)) : W p l e (rmOf fr0 lo0) s m args below meth c H locs 0 0 Q (F0 m pc ls rest) := by
  refine hw.back hA (va_runSN (As := av) ⟨F.x, F.b, F.ml, F.ow, F.ts⟩ (hC H.size) ⟨va_cnB na F.ts (GoodIn_BG hin) rfl rfl rfl (F.nk _ hn) (F.ts _ hini) hd hR, F.ts _ hstc, trivial⟩ ⟨Hd.blind _, fun U hU hW => ⟨rfl, hd_of hw F.nk U hU hW⟩⟩ rfl hna hl hst (lv_room hroom) hdg ⟨Nat.zero_le _, Nat.zero_le _⟩) (by rw [hs]; exact kk)
end FC

-- ===== steps through a function that mirrors the bytecode =====
theorem stT {α : Type} {P : Prop} [Decidable P] {x y : Option α} {z : α} (hc : P) (h : (if P then x else y) = some z) : x = some z := by rw [if_pos hc] at h; exact h
theorem stF {α : Type} {P : Prop} [Decidable P] {x y : Option α} {z : α} (hc : ¬ P) (h : (if P then x else y) = some z) : y = some z := by rw [if_neg hc] at h; exact h
theorem stG {α : Type} {P : Prop} [Decidable P] {x : Option α} {z : α} (h : (if P then x else none) = some z) : P ∧ x = some z := by
  by_cases hc : P
  · rw [if_pos hc] at h; exact ⟨hc, h⟩
  · rw [if_neg hc] at h; cases h
theorem stD {α : Type} {P : Prop} [Decidable P] {x : Option α} {z : α} (h : (if P then none else x) = some z) : ¬ P ∧ x = some z := by
  by_cases hc : P
  · rw [if_pos hc] at h; cases h
  · rw [if_neg hc] at h; exact ⟨hc, h⟩
theorem stB {α β : Type} {x : Option α} {k : α → Option β} {z : β} (h : x.bind k = some z) : ∃ y, x = some y ∧ k y = some z := Option.bind_eq_some_iff.mp h
def FU : Nat := 2000
theorem kV {own C : String} {idx n : Nat} {y : MethodName} {b : ByteArray} {ret : Option FieldType} (h1 : Cond.methodLink own idx y ∈ BG) (h2 : Cond.instanceMethod y ∈ BG) (h3 : Cond.selects C y y ∈ BG) (h4 : Cond.initialized C ∈ BG) (h5 : Cond.code y b n ret ∈ BG) : ∀ w ∈ wsV own idx C y (.code y b n ret :: BG), w ∈ BG := by
  intro w hw
  simp only [wsV, List.cons_append, List.nil_append, List.mem_cons] at hw
  rcases hw with rfl | rfl | rfl | rfl | rfl | hw
  · exact h1
  · exact h2
  · exact h3
  · exact h4
  · exact h5
  · exact hw
theorem kS {own : String} {idx n : Nat} {y : MethodName} {b : ByteArray} {ret : Option FieldType} (h1 : Cond.methodLink own idx y ∈ BG) (h2 : Cond.static y ∈ BG) (h4 : Cond.initialized y.cls ∈ BG) (h5 : Cond.code y b n ret ∈ BG) : ∀ w ∈ va_wsS own idx y (.code y b n ret :: BG), w ∈ BG := by
  intro w hw
  simp only [va_wsS, List.cons_append, List.nil_append, List.mem_cons] at hw
  rcases hw with rfl | rfl | rfl | rfl | hw
  · exact h1
  · exact h2
  · exact h4
  · exact h5
  · exact hw
theorem kN {n : Nat} {y : MethodName} {b : ByteArray} {ret : Option FieldType} (h5 : Cond.code y b n ret ∈ BG) : ∀ w ∈ .code y b n ret :: BG, w ∈ BG := by
  intro w hw
  rcases List.mem_cons.mp hw with rfl | hw
  · exact h5
  · exact hw
