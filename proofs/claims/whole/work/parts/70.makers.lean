/-! THE CONSTRUCTORS, printed by wip/whole/genctor.py; the rows for 'new T[n][m]' are the ones printed with the claim's names -/
def va_AOA (t : FieldType) (U : State) : Prop := (Cond.arrayOver (.array t)).before #[] U = true
theorem va_AOA.use {t : FieldType} {A : Array Value} {U : State} (h : va_AOA t U) : (Cond.arrayOver (.array t)).before A U = true := h
theorem va_AOA.moved {t : FieldType} {u U : State} (hvm : u.vm.Alike U.vm) (h : va_AOA t u) : va_AOA t U := by
  obtain ⟨comp, c, k, h1, h2, h3, h4, h5⟩ := arrayOverA_spec h
  obtain ⟨k', hk', he⟩ := hvm.2.2 _ _ h3
  have hi : (U.vm.classes.findIdx? fun (x : Class) => match x.kind with | .array component _ => component == comp | _ => false) = some c := by
    have hb : U.vm.bare = u.vm.bare := by first | exact hvm.bare_eq.symm | exact hvm.bare_eq
    refine (va_idx_bare U.vm comp).symm.trans ?_
    rw [hb]
    exact (va_idx_bare u.vm comp).trans h2
  have hkind : k'.kind = .array comp (.array t) := by rw [he]; exact h4
  have f1 : U.vm.findClass (FieldType.array t).toString = some comp := by rw [hvm.findClass]; exact h1
  have f2 : U.vm.findClass ("[" ++ (FieldType.array t).toString) = some c := by rw [hvm.findClass]; exact h5
  unfold va_AOA Cond.before Cond.holds
  simp only [Cond.value]
  rw [f1, Option.bind_some]
  refine (congrArg (fun o : Option Nat => (o.bind (fun c => (U.vm.classes[c]?).map fun (k : Class) => match k.kind with | .array _ ty => decide (ty = FieldType.array t) && decide (U.vm.findClass ("[" ++ (FieldType.array t).toString) = some c) | _ => false) == some true)) hi).trans ?_
  simp [hk', hkind, f2]
/-! ===== BEGIN new T[n][m]: the outer array a place, the inner ones among the pooled ===== -/
/-- f, but v at every address of l -/
def vr_up {α : Type} (f : Nat → α) (l : List Nat) (v : α) : Nat → α := fun a => if a ∈ l then v else f a
theorem vr_up_in {α : Type} {f : Nat → α} {l : List Nat} {v : α} {a : Nat} (h : a ∈ l) : vr_up f l v a = v := if_pos h
theorem vr_up_ne {α : Type} {f : Nat → α} {l : List Nat} {v : α} {a : Nat} (h : a ∉ l) : vr_up f l v a = f a := if_neg h
theorem vr_rows {L l : List Nat} {f : Nat → va_E} {e : va_E} (h : ∀ a, a ∈ l → a ∉ L) : va_pl L f ++ l.map (fun a => (a, e)) = va_pl (L ++ l) (vr_up f l e) := by
  unfold va_pl
  rw [List.map_append]
  congr 1
  · apply List.map_congr_left
    intro a ha
    rw [vr_up_ne (fun q => h a q ha)]
  · apply List.map_congr_left
    intro a ha
    rw [vr_up_in ha]
theorem vr_lay {X rows : va_W} {x : Nat × va_E} {pl : va_W} {D : va_G} {cl : List vw_C} {H : Heap} (hP : va_P D cl (((X ++ pl) ++ [x]) ++ rows) H) : va_P D cl ((X ++ [x]) ++ (pl ++ rows)) H := by
  rw [List.append_assoc (X ++ pl)] at hP
  have h := va_P.swap hP
  rw [← List.append_assoc X] at h
  have h2 := va_P.swap h
  rw [List.append_assoc (X ++ [x])] at h2
  exact h2
theorem vr_layD {X rows : va_W} {x : Nat × va_E} {pl : va_W} {A : Nat → Prop} (hD : va_D A (((X ++ pl) ++ [x]) ++ rows)) : va_D A ((X ++ [x]) ++ (pl ++ rows)) := by
  rw [List.append_assoc (X ++ pl)] at hD
  have h := va_D.swap hD
  rw [← List.append_assoc X] at h
  have h2 := va_D.swap h
  rw [List.append_assoc (X ++ [x])] at h2
  exact h2
theorem vr_outer (c : ClassId) (N h0 : Nat) : ∀ i : Nat, Jvm.Free.Multi.outerC c N h0 i = arrV c N (fun j => va_rf (if j < i then some (h0 + 1 + j) else none))
  | 0 => by
    show ({ cls := c, slots := Array.replicate N .null, vm := .none } : Cell) = _
    rw [arrV_new]
    refine congrArg (arrV c N) (funext fun j => ?_)
    simp [va_rf]
  | i + 1 => by
    show (Jvm.Free.Multi.outerC c N h0 i).setSlot i (.ref (h0 + 1 + i)) = _
    rw [vr_outer c N h0 i, arrV_store]
    refine congrArg (arrV c N) (funext fun j => ?_)
    by_cases e : j = i
    · subst e
      simp [updV, va_rf]
    · by_cases h : j < i
      · simp [updV, e, h, Nat.lt_succ_of_lt h]
      · simp [updV, e, h, show ¬ j < i + 1 by omega]
section VGM
variable {p : Program} {l : Launch} {e : Env} {R : Room} {s : State} {m : MethodId} {args : Array Value} {below : List Frame} {meth : Method} {c : Code} {H : Heap} {locs : List Loc} {cells slots : Nat} {Q : State → Prop}
variable {cc : ByteArray} {pc : Nat} {ls : Array Slot} {rest : List Value} {D : va_G} {cl : List vw_C} {A : Nat → Prop} {a : Nat} {tys : List (ClassId × FieldType)} {ws : va_W} {H0 : Heap}
theorem va_mna {X : va_W} {L : List Nat} {f : Nat → va_E} {cc : ByteArray} (hexec : p.tables.exec = Jvm.exec) (hb : c.code = cc) {own : String} {index : Nat} {ty : FieldType} {cy : ClassId} (hown : s.vm.findClass own = some m.cls) (hclink : (Cond.classLink own index ("[" ++ (FieldType.array ty).toString)).before args s = true) (hover : va_AOA ty s) (harr : (Cond.arrayClass ty).before args s = true) (hcy : s.vm.findClass (FieldType.array ty).toString = some cy)
    (hK : va_K D cl tys s) (hP : va_P D cl (X ++ va_pl L f) H) (hD : va_D A (X ++ va_pl L f)) (hS : va_S A H0 H locs) (hA : ∀ q, H0.size ≤ q → A q) {n k : Int32} {N' K' : Nat} {z : vp_A} (hn : ¬ n < 0) (hk : ¬ k < 0) (hN : n.toNatClampNeg = N') (hM : k.toNatClampNeg = K')
    (hb1 : N' * 4 ≤ 536870912) (hb2 : K' * componentBytes ty ≤ 536870912) (hb3 : K' ≤ 536870912) (hdf : fits ty (defaultValue ty) = true) (hdd : (defaultValue ty).isDefault = true) (hcells : cells + (1 + N') ≤ R.cells) (hslots : slots + (N' + N' * K') ≤ R.slots) (hz : ∀ c : ClassId, Jvm.Free.Multi.innerC c K' (defaultValue ty) = vp_cell c z) (hdg : decode cc pc = .ok (.multianewarray index 2, 4))
    (kk : ∀ (q : Nat) (r : Nat → Nat) (cA : ClassId) (H1 : Heap), (∀ i j : Nat, i < N' → j < N' → r i = r j → i = j) → (∀ i : Nat, i < N' → r i ∉ L) → va_K D cl (tys ++ [(cA, .array ty)]) s →
      va_P D cl ((X ++ [(q, .inl (cA, N', .inr (.inr (.inr (.inr (fun i => if i < N' then some (r i) else none))))))]) ++ va_pl (L ++ (List.range N').map r) (vr_up f ((List.range N').map r) (.inl (cy, z)))) H1 → va_D A ((X ++ [(q, .inl (cA, N', .inr (.inr (.inr (.inr (fun i => if i < N' then some (r i) else none))))))]) ++ va_pl (L ++ (List.range N').map r) (vr_up f ((List.range N').map r) (.inl (cy, z)))) → va_S A H0 H1 locs →
      W p l e R s m args below meth c H1 locs (cells + 1 + N') (slots + N' + N' * K') Q (F0 m (pc + 4) ls (.ref q :: rest))) : W p l e R s m args below meth c H locs cells slots Q (F0 m pc ls (.int k :: .int n :: rest)) := by
  subst hN
  subst hM
  intro T hT Xs
  obtain ⟨vm₁, cA, comp, -, fA, fC, hO, -, X', step⟩ := Xs.multianewarray2F hexec hown hclink (va_AOA.use hover) harr (g := F0 m pc ls (.int k :: .int n :: rest)) rfl (by rw [hb]; exact hdg) rfl hn hk hb1 hb2 hb3 hdf hdd hcells hslots
  have ec : some cy = some comp := hcy.symm.trans fC
  cases ec
  generalize hF : Jvm.Free.Multi.fill (T.setVm vm₁) cA cy n.toNatClampNeg k.toNatClampNeg (defaultValue ty) n.toNatClampNeg = F at X' step
  have hTh : (T.setVm vm₁).heap = H := hT
  obtain ⟨f1, f2, -, -⟩ := Jvm.Free.Multi.fill_facts (T.setVm vm₁) cA cy n.toNatClampNeg k.toNatClampNeg (defaultValue ty) n.toNatClampNeg
  rw [hF, hTh] at f1 f2
  have hold : ∀ x : Nat, x < H.size → F.heap[x]? = H[x]? := fun x hx => by
    have := Jvm.Free.Multi.fill_old (T.setVm vm₁) cA cy n.toNatClampNeg k.toNatClampNeg (defaultValue ty) (a := x) (by rw [hTh]; exact hx) n.toNatClampNeg
    rw [hF, hTh] at this
    exact this
  have hrow : ∀ j : Nat, j < n.toNatClampNeg → F.heap[H.size + 1 + j]? = some (vp_cell cy z) := fun j hj => by
    have := Jvm.Free.Multi.fill_inner (T.setVm vm₁) cA cy n.toNatClampNeg k.toNatClampNeg (defaultValue ty) n.toNatClampNeg j hj
    rw [hF, hTh, hz] at this
    exact this
  have hout : Jvm.Free.Multi.outerC cA n.toNatClampNeg H.size n.toNatClampNeg = vp_cell cA (n.toNatClampNeg, .inr (.inr (.inr (.inr (fun i => if i < n.toNatClampNeg then some (H.size + 1 + i) else none))))) := by
    rw [vp_cell_q]
    exact vr_outer cA n.toNatClampNeg H.size n.toNatClampNeg
  rw [hout] at f2
  have hlt : ∀ a, a ∈ L → a < H.size := fun a ha => by
    obtain ⟨k9, hk9⟩ := va_pl_get (X := X) (f := f) ha
    exact (hP k9 _ hk9).lt
  have hnl : ∀ i : Nat, i < n.toNatClampNeg → H.size + 1 + i ∉ L := fun i _ h => by
    have := hlt _ h
    omega
  have hnm : ∀ a, a ∈ (List.range n.toNatClampNeg).map (fun i => H.size + 1 + i) → a ∉ L := fun a ha h => by
    obtain ⟨i, -, rfl⟩ := List.mem_map.mp ha
    have := hlt _ h
    omega
  have hP0 : va_P D cl (X ++ va_pl L f) F.heap := hP.kept (fun k9 x hx => hold x.1 ((hP k9 x hx).lt))
  have hP1 : va_P D cl ((X ++ va_pl L f) ++ [(H.size, .inl (cA, n.toNatClampNeg, .inr (.inr (.inr (.inr (fun i => if i < n.toNatClampNeg then some (H.size + 1 + i) else none))))))]) F.heap := hP0.app (fun k9 x hx => by
    have h0 : k9 < 1 := (List.getElem?_eq_some_iff.mp hx).1
    rw [show k9 = 0 by omega] at hx
    cases hx
    exact f2)
  have hP2 : va_P D cl (((X ++ va_pl L f) ++ [(H.size, .inl (cA, n.toNatClampNeg, .inr (.inr (.inr (.inr (fun i => if i < n.toNatClampNeg then some (H.size + 1 + i) else none))))))]) ++ ((List.range n.toNatClampNeg).map (fun i => H.size + 1 + i)).map (fun a => (a, .inl (cy, z)))) F.heap := hP1.app (fun k9 x hx => by
    obtain ⟨a, ha, rfl⟩ := List.mem_map.mp (List.mem_of_getElem? hx)
    obtain ⟨i, hi, rfl⟩ := List.mem_map.mp ha
    exact hrow i (List.mem_range.mp hi))
  have hD2 : va_D A (((X ++ va_pl L f) ++ [(H.size, .inl (cA, n.toNatClampNeg, .inr (.inr (.inr (.inr (fun i => if i < n.toNatClampNeg then some (H.size + 1 + i) else none))))))]) ++ ((List.range n.toNatClampNeg).map (fun i => H.size + 1 + i)).map (fun a => (a, .inl (cy, z)))) := by
    have hD1 := hD.push (e := .inl (cA, n.toNatClampNeg, .inr (.inr (.inr (.inr (fun i => if i < n.toNatClampNeg then some (H.size + 1 + i) else none)))))) hP rfl (hA _ hS.1)
    generalize hW1 : (X ++ va_pl L f) ++ [(H.size, .inl (cA, n.toNatClampNeg, .inr (.inr (.inr (.inr (fun i => if i < n.toNatClampNeg then some (H.size + 1 + i) else none))))))] = W1 at hD1 hP1 ⊢
    have hle : ∀ (k9 : Nat) (x : Nat × va_E), W1[k9]? = some x → x.1 ≤ H.size := fun k9 x hx => by
      rw [← hW1] at hx
      by_cases hl : k9 < (X ++ va_pl L f).length
      · rw [List.getElem?_append_left hl] at hx
        exact Nat.le_of_lt ((hP k9 x hx).lt)
      · rw [List.getElem?_append_right (by omega)] at hx
        have h0 : k9 - (X ++ va_pl L f).length < 1 := (List.getElem?_eq_some_iff.mp hx).1
        rw [show k9 - (X ++ va_pl L f).length = 0 by omega] at hx
        cases hx
        exact Nat.le_refl _
    have hr : ∀ (k9 : Nat) (x : Nat × va_E), (((List.range n.toNatClampNeg).map (fun i => H.size + 1 + i)).map (fun a => ((a, .inl (cy, z)) : Nat × va_E)))[k9]? = some x → x.1 = H.size + 1 + k9 := fun k9 x hx => by
      rw [List.getElem?_map, List.getElem?_map] at hx
      by_cases h9 : k9 < n.toNatClampNeg
      · rw [List.getElem?_range h9] at hx
        cases hx
        rfl
      · have hn0 : (List.range n.toNatClampNeg)[k9]? = none := List.getElem?_eq_none (by rw [List.length_range]; omega)
        rw [hn0] at hx
        cases hx
    refine ⟨fun i j x y hi hj hxy => ?_, fun k9 x hx => ?_⟩
    · by_cases h1 : i < W1.length <;> by_cases h2 : j < W1.length
      · rw [List.getElem?_append_left h1] at hi
        rw [List.getElem?_append_left h2] at hj
        exact hD1.1 i j x y hi hj hxy
      · rw [List.getElem?_append_left h1] at hi
        rw [List.getElem?_append_right (by omega)] at hj
        have := hle _ _ hi
        have := hr _ _ hj
        omega
      · rw [List.getElem?_append_right (by omega)] at hi
        rw [List.getElem?_append_left h2] at hj
        have := hle _ _ hj
        have := hr _ _ hi
        omega
      · rw [List.getElem?_append_right (by omega)] at hi hj
        have := hr _ _ hi
        have := hr _ _ hj
        omega
    · by_cases h1 : k9 < W1.length
      · rw [List.getElem?_append_left h1] at hx
        exact hD1.2 k9 x hx
      · rw [List.getElem?_append_right (by omega)] at hx
        have := hr _ _ hx
        exact hA _ (by have := hS.1; omega)
  have hAr : ArrOfT s cA (.array ty) := fun N9 z9 => by
    obtain ⟨-, k9, hk9, cm9, hkk9⟩ := (hO 0 0 0).1
    exact ⟨(fun q hq => by cases hq), k9, hk9, cm9, hkk9⟩
  have hK2 : va_K D cl (tys ++ [(cA, .array ty)]) s := ⟨hK.1, fun k9 x hx => by
    by_cases hl : k9 < tys.length
    · rw [List.getElem?_append_left hl] at hx
      exact hK.2 k9 x hx
    · rw [List.getElem?_append_right (by omega)] at hx
      have h0 : k9 - tys.length < 1 := (List.getElem?_eq_some_iff.mp hx).1
      rw [show k9 - tys.length = 0 by omega] at hx
      cases hx
      exact ⟨hAr, fA⟩⟩
  obtain ⟨t, a1, b1⟩ := kk H.size (fun i => H.size + 1 + i) cA F.heap (fun i j _ _ h => by have h9 : H.size + 1 + i = H.size + 1 + j := h; omega) hnl hK2 (by rw [← vr_rows hnm]; exact vr_lay hP2) (by rw [← vr_rows hnm]; exact vr_layD hD2) ⟨by rw [f1]; have := hS.1; omega, fun x h1 h2 => (hold x (Nat.lt_of_lt_of_le h1 hS.1)).trans (hS.2.1 x h1 h2), hS.2.2⟩ F rfl X'
  refine ⟨t, step t ?_, b1⟩
  have e : T.heap.size = H.size := by rw [hT]
  rw [e]
  exact a1
end VGM

theorem karr_int : Cond.arrayClass .int ∈ BG := BG_in 210 (by decide +kernel) (by decide +kernel)
theorem karr_long : Cond.arrayClass .long ∈ BG := BG_in 211 (by decide +kernel) (by decide +kernel)
theorem karr_byte : Cond.arrayClass .byte ∈ BG := BG_in 302 (by decide +kernel) (by decide +kernel)
theorem kcl_1 : Cond.classLink RX1 15 ("[" ++ (FieldType.array .long).toString) ∈ BG := BG_in 268 (by decide +kernel) (by decide +kernel)
theorem kcl_4 : Cond.classLink RX4 45 ("[" ++ (FieldType.array .long).toString) ∈ BG := BG_in 303 (by decide +kernel) (by decide +kernel)
theorem koi_i : Cond.instanceMethod objectInit ∈ BG := BG_in 77 (by decide +kernel) (by decide +kernel)
theorem koi_c : Cond.code objectInit ⟨#[0xb1]⟩ 1 none ∈ BG := BG_in 78 (by decide +kernel) (by decide +kernel)
theorem koi_0 : Cond.methodLink RX0 3 objectInit ∈ BG := BG_in 84 (by decide +kernel) (by decide +kernel)
theorem koi_1 : Cond.methodLink RX1 3 objectInit ∈ BG := BG_in 267 (by decide +kernel) (by decide +kernel)
theorem koi_2 : Cond.methodLink RX2 3 objectInit ∈ BG := BG_in 245 (by decide +kernel) (by decide +kernel)
theorem koi_3 : Cond.methodLink RX3 3 objectInit ∈ BG := BG_in 217 (by decide +kernel) (by decide +kernel)
theorem koi_4 : Cond.methodLink RX4 3 objectInit ∈ BG := BG_in 76 (by decide +kernel) (by decide +kernel)
theorem koi_5 : Cond.methodLink RX5 3 objectInit ∈ BG := BG_in 681 (by decide +kernel) (by decide +kernel)
/-- the contract of a constructor: cells come, the world is as Post says -/
def CtN (l : Launch) (G : GG) (y : MethodName) (b : ByteArray) (n fr lo mc ms : Nat) (av : List Value) (X : va_W) (Post : va_W → Prop) : Prop :=
  ∀ sz : Nat, Met l y (.code y b n none :: BG) { frames := fr, cells := mc, slots := ms, locals := lo } (va_Pc av (fun U => Hd G X sz U ∧ va_AOA .long U)) (fun _ st oc t => oc = .returned none ∧ ∃ X', Post X' ∧ Td G X X' sz st t) mc ms (va_A X sz)
theorem CtN.of {l : Launch} {G : GG} {y : MethodName} {b : ByteArray} {n fr lo mc ms : Nat} {av : List Value} {X : va_W} {Post : va_W → Prop} (hy : plainFor y = true) (hi : y.name = "<init>") (hlen : (lg_sl av).length ≤ n)
    (body : ∀ (p : Program) (e : Env) (s : State) (m : MethodId) (args : Array Value) (below : List Frame) (meth : Method) (c : Code) (Q : State → Prop) (A : Nat → Prop) (ls : Array Slot), Fx p s m args meth c b n y.cls none → va_AOA .long s → meth.name = "<init>" → Wd G s A X s.heap [] → (∀ q, s.heap.size ≤ q → A q) →
      (∀ (X' : va_W) (H : Heap) (locs : List Loc) (pc : Nat) (ls : Array Slot), Post X' → Wd G s A X' H locs → decode b pc = .ok (.return_, 1) → W p l e { frames := fr, cells := mc, slots := ms, locals := lo } s m args below meth c H locs mc ms Q (F0 m pc ls [])) → lv_has ls n (lv_args 0 av) →
      W p l e { frames := fr, cells := mc, slots := ms, locals := lo } s m args below meth c s.heap [] 0 0 Q (F0 m 0 ls [])) : CtN l G y b n fr lo mc ms av X Post := by
  intro sz
  refine va_MetF (cc := b) (maxL := n) (ret := none) hy rfl ?_
  intro p e s m args below meth c s₁ B hml hv
  obtain ⟨rfl, ⟨hsz, hP, hK, hD0, hN⟩, hO⟩ := hv
  have hts := atoms_spec (ws := .code y b n none :: BG) B.pre
  have F : Fx p s m av.toArray meth c b n y.cls none := ⟨B.exec, B.bytes, hml, findClass_of_methodNamed B.named, fun w hw => hts w (List.mem_cons_of_mem _ hw), B.returns, B.notSynchronized, hN⟩
  have hin : meth.name = "<init>" := ((name_of_methodNamed B.named B.method).1).trans hi
  subst hsz
  have hl := lv_entry av hlen
  rw [lg_entry_eq]
  refine body p e s m av.toArray below meth c _ _ _ F hO hin ⟨hK, hP, hD0.self, va_S.rf⟩ (fun q h => Or.inr h) ?_ hl
  intro X' H locs pc ls hp hw hdg
  obtain ⟨hK, hP, hD, hS⟩ := hw
  exact W.vret F.x F.b F.rt (fun t ht hW => ⟨rfl, X', hp, by rw [ht]; exact hP, va_K.moved hW.alike hK, hD, hS.F ht⟩) hS.2.2 hdg F.lk
section FN
variable {p : Program} {l : Launch} {e : Env} {R : Room} {s : State} {m : MethodId} {args : Array Value} {below : List Frame} {meth : Method} {c : Code} {H : Heap} {locs : List Loc} {cells slots : Nat} {Q : State → Prop}
variable {cc : ByteArray} {nL : Nat} {own : String} {ret : Option FieldType} {pc : Nat} {ls : Array Slot} {rest : List Value} {G : GG} {A : Nat → Prop} {X X' : va_W}
theorem nwI (F : Fx p s m args meth c cc nL own ret) (hw : Wd G s A X H locs) (hA : ∀ q, s.heap.size ≤ q → A q) {n : Int32} {N : Nat} (hn : ¬ n < 0) (hN : n.toNatClampNeg = N) (hy : N * 4 ≤ 536870912) (hc : cells + 1 ≤ R.cells) (hs : slots + N ≤ R.slots) (hdg : decode cc pc = .ok (.newarray .int, 2))
    (kk : ∀ (q : Nat) (H : Heap), Wd G s A (X ++ [(q, .inl (G.2.1, N, .inl (fun _ => 0)))]) H locs → W p l e R s m args below meth c H locs (cells + 1) (slots + N) Q (F0 m (pc + 2) ls (.ref q :: rest))) : W p l e R s m args below meth c H locs cells slots Q (F0 m pc ls (.int n :: rest)) := by
  refine va_newa (atype := .int) F.x F.b (F.ts _ karr_int) rfl hw.1 hw.2.1 hw.2.2.1 hw.2.2.2 hA (a0 := (N, .inl (fun _ => 0))) (fun _ => rfl) hn hN hy hc hs hdg (fun q cA H hK hP hD hS => ?_)
  have h1 : va_RA s cA .int := (hK.2 4 (cA, .int) rfl).2
  have h2 : va_RA s G.2.1 .int := (hw.1.2 0 (G.2.1, .int) rfl).2
  have h3 : cA = G.2.1 := Option.some.inj ((show s.vm.findClass ("[" ++ FieldType.int.toString) = some cA from h1).symm.trans h2)
  rw [h3] at hP hD
  exact kk q H ⟨hw.1, hP, hD, hS⟩
theorem nwL (F : Fx p s m args meth c cc nL own ret) (hw : Wd G s A X H locs) (hA : ∀ q, s.heap.size ≤ q → A q) {n : Int32} {N : Nat} (hn : ¬ n < 0) (hN : n.toNatClampNeg = N) (hy : N * 8 ≤ 536870912) (hc : cells + 1 ≤ R.cells) (hs : slots + N ≤ R.slots) (hdg : decode cc pc = .ok (.newarray .long, 2))
    (kk : ∀ (q : Nat) (H : Heap), Wd G s A (X ++ [(q, .inl (G.2.2.2.1, N, .inr (.inl (fun _ => 0))))]) H locs → W p l e R s m args below meth c H locs (cells + 1) (slots + N) Q (F0 m (pc + 2) ls (.ref q :: rest))) : W p l e R s m args below meth c H locs cells slots Q (F0 m pc ls (.int n :: rest)) := by
  refine va_newa (atype := .long) F.x F.b (F.ts _ karr_long) rfl hw.1 hw.2.1 hw.2.2.1 hw.2.2.2 hA (a0 := (N, .inr (.inl (fun _ => 0)))) (fun _ => rfl) hn hN hy hc hs hdg (fun q cA H hK hP hD hS => ?_)
  have h1 : va_RA s cA .long := (hK.2 4 (cA, .long) rfl).2
  have h2 : va_RA s G.2.2.2.1 .long := (hw.1.2 2 (G.2.2.2.1, .long) rfl).2
  have h3 : cA = G.2.2.2.1 := Option.some.inj ((show s.vm.findClass ("[" ++ FieldType.long.toString) = some cA from h1).symm.trans h2)
  rw [h3] at hP hD
  exact kk q H ⟨hw.1, hP, hD, hS⟩
theorem nwB (F : Fx p s m args meth c cc nL own ret) (hw : Wd G s A X H locs) (hA : ∀ q, s.heap.size ≤ q → A q) {n : Int32} {N : Nat} (hn : ¬ n < 0) (hN : n.toNatClampNeg = N) (hy : N * 1 ≤ 536870912) (hc : cells + 1 ≤ R.cells) (hs : slots + N ≤ R.slots) (hdg : decode cc pc = .ok (.newarray .byte, 2))
    (kk : ∀ (q : Nat) (H : Heap), Wd G s A (X ++ [(q, .inl (G.2.2.1, N, .inl (fun _ => 0)))]) H locs → W p l e R s m args below meth c H locs (cells + 1) (slots + N) Q (F0 m (pc + 2) ls (.ref q :: rest))) : W p l e R s m args below meth c H locs cells slots Q (F0 m pc ls (.int n :: rest)) := by
  refine va_newa (atype := .byte) F.x F.b (F.ts _ karr_byte) rfl hw.1 hw.2.1 hw.2.2.1 hw.2.2.2 hA (a0 := (N, .inl (fun _ => 0))) (fun _ => rfl) hn hN hy hc hs hdg (fun q cA H hK hP hD hS => ?_)
  have h1 : va_RA s cA .byte := (hK.2 4 (cA, .byte) rfl).2
  have h2 : va_RA s G.2.2.1 .byte := (hw.1.2 1 (G.2.2.1, .byte) rfl).2
  have h3 : cA = G.2.2.1 := Option.some.inj ((show s.vm.findClass ("[" ++ FieldType.byte.toString) = some cA from h1).symm.trans h2)
  rw [h3] at hP hD
  exact kk q H ⟨hw.1, hP, hD, hS⟩
theorem nwQ {idx : Nat} (F : Fx p s m args meth c cc nL own ret) (hO : va_AOA .long s) (hcl : Cond.classLink own idx ("[" ++ (FieldType.array .long).toString) ∈ BG) (hw : Wd G s A X H locs) (hA : ∀ q, s.heap.size ≤ q → A q) {n k : Int32} {N K : Nat} (hn : ¬ n < 0) (hk : ¬ k < 0) (hN : n.toNatClampNeg = N) (hK : k.toNatClampNeg = K) (hy : N * 4 ≤ 536870912) (hy2 : K * 8 ≤ 536870912) (hc : cells + (1 + N) ≤ R.cells) (hs : slots + (N + N * K) ≤ R.slots) (hdg : decode cc pc = .ok (.multianewarray idx 2, 4))
    (kk : ∀ (q : Nat) (r : Nat → Nat) (H : Heap), Wd G s A ((X ++ [(q, .inl (G.2.2.2.2, N, .inr (.inr (.inr (.inr (fun i => if i < N then some (r i) else none))))))]) ++ (List.range N).map (fun i => (r i, .inl (G.2.2.2.1, K, .inr (.inl (fun _ => 0)))))) H locs → W p l e R s m args below meth c H locs (cells + 1 + N) (slots + N + N * K) Q (F0 m (pc + 4) ls (.ref q :: rest))) : W p l e R s m args below meth c H locs cells slots Q (F0 m pc ls (.int k :: .int n :: rest)) := by
  have h2 : va_RA s G.2.2.2.1 .long := (hw.1.2 2 (G.2.2.2.1, .long) rfl).2
  have hX0 : X ++ va_pl [] (fun _ => .inr (0, [])) = X := List.append_nil X
  refine va_mna (X := X) (L := []) (f := fun _ => .inr (0, [])) (ty := .long) (cy := G.2.2.2.1) (z := (K, .inr (.inl (fun _ => 0)))) F.x F.b F.ow (F.ts _ hcl) hO (F.ts _ karr_long) h2 hw.1 (by rw [hX0]; exact hw.2.1) (by rw [hX0]; exact hw.2.2.1) hw.2.2.2 hA hn hk hN hK hy hy2 (by omega) rfl rfl hc hs (fun c => ?_) hdg (fun q r cA H hi _ hKa hP hD hS => ?_)
  · exact arrV_new c K (.long 0)
  · have h1 : va_RA s cA (.array .long) := (hKa.2 4 (cA, .array .long) rfl).2
    have h4 : va_RA s G.2.2.2.2 (.array .long) := (hw.1.2 3 (G.2.2.2.2, .array .long) rfl).2
    have h3 : cA = G.2.2.2.2 := Option.some.inj ((show s.vm.findClass ("[" ++ (FieldType.array .long).toString) = some cA from h1).symm.trans h4)
    rw [h3] at hP hD
    have hr : va_pl ([] ++ (List.range N).map r) (vr_up (fun _ => .inr (0, [])) ((List.range N).map r) (.inl (G.2.2.2.1, K, .inr (.inl (fun _ => 0))))) = (List.range N).map (fun i => (r i, .inl (G.2.2.2.1, K, .inr (.inl (fun _ => 0))))) := by
      unfold va_pl
      rw [List.nil_append, List.map_map]
      refine List.map_congr_left (fun i hi => ?_)
      show (r i, vr_up _ _ _ (r i)) = _
      rw [vr_up_in (List.mem_map.mpr ⟨i, hi, rfl⟩)]
    rw [hr] at hP hD
    exact kk q r H ⟨hw.1, hP, hD, hS⟩
theorem Wd.outer {k a n : Nat} {f g : Nat → Option Nat} (hk : X[k]? = some (a, .inl (G.2.2.2.2, n, .inr (.inr (.inr (.inr f)))))) (h : ∀ i, i < n → f i = g i) (hw : Wd G s A X H locs) : Wd G s A (X.set k (a, .inl (G.2.2.2.2, n, .inr (.inr (.inr (.inr g)))))) H locs := by
  have hlen : k < X.length := (List.getElem?_eq_some_iff.mp hk).1
  refine ⟨hw.1, fun j x hj => ?_, ⟨fun i j x y hi hj he => ?_, fun j x hj => ?_⟩, hw.2.2.2⟩
  · rw [List.getElem?_set] at hj
    by_cases h1 : k = j
    · subst h1
      rw [if_pos rfl, if_pos hlen] at hj
      cases hj
      have h2 := hw.2.1 k _ hk
      show H[a]? = some (vp_cell _ _)
      have h3 : H[a]? = some (vp_cell G.2.2.2.2 (n, .inr (.inr (.inr (.inr f))))) := h2
      rw [h3, vp_cell_q, vp_cell_q]
      congr 1
      unfold arrV
      congr 1
      congr 1
      funext i
      show va_rf (f i.1) = va_rf (g i.1)
      rw [h i.1 i.2]
    · rw [if_neg h1] at hj
      exact hw.2.1 j x hj
  · have key : ∀ (j : Nat) (x : Nat × va_E), (X.set k (a, .inl (G.2.2.2.2, n, .inr (.inr (.inr (.inr g))))))[j]? = some x → ∃ y, X[j]? = some y ∧ y.1 = x.1 := by
      intro j x hj
      rw [List.getElem?_set] at hj
      by_cases h1 : k = j
      · subst h1
        rw [if_pos rfl, if_pos hlen] at hj
        cases hj
        exact ⟨_, hk, rfl⟩
      · rw [if_neg h1] at hj
        exact ⟨x, hj, rfl⟩
    obtain ⟨x2, e1, e2⟩ := key i x hi
    obtain ⟨y2, e3, e4⟩ := key j y hj
    exact hw.2.2.1.1 i j x2 y2 e1 e3 (by rw [e2, e4, he])
  · rw [List.getElem?_set] at hj
    by_cases h1 : k = j
    · subst h1
      rw [if_pos rfl, if_pos hlen] at hj
      cases hj
      have hz := hw.2.2.1.2 k _ hk
      exact hz
    · rw [if_neg h1] at hj
      exact hw.2.2.1.2 j x hj
theorem backN {Post : va_W → Prop} {wc wr : va_W} {mc ms : Nat} {st0 : List Value} (hw : Wd G s A X H locs) (hA : ∀ q, s.heap.size ≤ q → A q) (isC isR : List Nat) (hC : isC.map (fun i => X[i]?) = wc.map some) (hR : isR.map (fun i => X[i]?) = wr.map some) (hn : va_nd isR = true) (hdis : ∀ i ∈ isR, i ∉ isC)
    (hr : va_Run p l e R s m args below meth c H locs cells slots mc ms (F0 m pc ls rest) st0 (fun st oc t => oc = .returned none ∧ ∃ X', Post X' ∧ Td G wc X' H.size st t) (va_A wc H.size))
    (kk : ∀ (X' : va_W) (H1 : Heap) (locs1 : List Loc), Post X' → Wd G s A (wr ++ X') H1 locs1 → W p l e R s m args below meth c H1 locs1 (cells + mc) (slots + ms) Q (F0 m (pc + 3) ls st0)) : W p l e R s m args below meth c H locs cells slots Q (F0 m pc ls rest) := by
  obtain ⟨hK, hP, hD, hS⟩ := hw
  have hF := va_free hD hS hA isC hC
  intro T hT Xs
  obtain ⟨v, st₀, t, T', L, h0, X1, hL, e1, e2, ⟨hv, X', hpo, hP1, hK1, hD1, hz, hk⟩, st⟩ := hr T hT Xs
  cases hv
  rw [h0] at hz hk
  have hJ := va_join (A0 := A) hP hD isC isR hC hR hn hdis (H1 := T'.heap) (w1 := X') (by rw [e1]; exact hk) hF (by rw [e1]; exact hP1) hD1
  obtain ⟨t2, a1, b1⟩ := kk X' T'.heap (locs ++ L) hpo ⟨hK, hJ.1, hJ.2,
    ⟨Nat.le_trans hS.1 (by rw [e1]; exact hz), fun q h1 h2 => by rw [e1, hk q (Nat.lt_of_lt_of_le h1 hS.1) (fun z => h2 (hF q z))]; exact hS.2.1 q h1 h2, fun q hq => by
      rcases List.mem_append.mp hq with h | h
      · exact hS.2.2 q h
      · exact hF _ (hL q h)⟩⟩ T' rfl X1
  exact ⟨t2, st t2 a1, b1⟩
theorem hdN {wc : va_W} (hw : Wd G s A X H locs) (isC : List Nat) (hC : isC.map (fun i => X[i]?) = wc.map some) (hnd : va_nd isC = true) (F : Nk s) (hO : va_AOA .long s) : ∀ U : State, U.heap = H → s.WarmedH U.vm → Hd G wc H.size U ∧ va_AOA .long U := by
  obtain ⟨hK, hP, hD, hS⟩ := hw
  intro U hU hW
  have hs : isC.filterMap (fun i => X[i]?) = wc := by
    have : ∀ (l : List Nat) (w : va_W), l.map (fun i => X[i]?) = w.map some → l.filterMap (fun i => X[i]?) = w := by
      intro l
      induction l with
      | nil => intro w h; cases w with
        | nil => rfl
        | cons a w => cases h
      | cons a l ih => intro w h; cases w with
        | nil => cases h
        | cons b w =>
          rw [List.map_cons, List.map_cons] at h
          have h1 := (List.cons.inj h).1
          have h2 := (List.cons.inj h).2
          rw [List.filterMap_cons, h1, ih w h2]
    exact this isC wc hC
  refine ⟨⟨by rw [hU], by rw [hU]; exact hP.sub isC hs, va_K.moved hW.alike hK, (hD.sub isC hnd hC).weaken (fun _ _ _ _ => trivial), F.warm hW⟩, hO.moved hW.alike⟩
theorem HdN.blind {Y : va_W} {sz : Nat} (av : List Value) : FrameBlind (va_Pc av (fun U => Hd G Y sz U ∧ va_AOA .long U)) := by
  intro a U g mk q
  obtain ⟨q0, ⟨q1, qP, qK, qD, qN⟩, qO⟩ := q
  exact ⟨q0, ⟨q1, qP, va_K.moved (u := U) (U := U.calling g mk a) (Vm.Alike.refl U.vm) qK, qD, Nk.same (u := U) rfl qN⟩, qO.moved (u := U) (U := U.calling g mk a) (Vm.Alike.refl U.vm)⟩
/-- invokespecial of a constructor on the fresh object at place i0 -/
theorem ctI {y : MethodName} {b : ByteArray} {n fr lo mc ms idx na : Nat} {av st0 : List Value} {a : Nat} {wc wr : va_W} {Post : va_W → Prop}
    (F : Fx p s m args meth c cc nL own ret) (hO : va_AOA .long s) (hw : Wd G s A X H locs) (hA : ∀ q, s.heap.size ≤ q → A q) (hC : CtN l G y b n fr lo mc ms (.ref a :: av) wc Post)
    (isC isR : List Nat) (hCm : isC.map (fun i => X[i]?) = wc.map some) (hRm : isR.map (fun i => X[i]?) = wr.map some) (hnC : va_nd isC = true) (hn : va_nd isR = true) (hdis : ∀ i ∈ isR, i ∉ isC)
    (hin : ∀ w ∈ .code y b n none :: BG, w ∈ BG) (hini : Cond.initialized y.cls ∈ BG) (hlk : Cond.methodLink own idx y ∈ BG) (him : Cond.instanceMethod y ∈ BG) (hy1 : y.name = "<init>") (hd : y.cls ≠ "java/lang/invoke/MethodHandle" ∧ y.cls ≠ "java/lang/invoke/VarHandle" ∧ (parseMethodDescriptor y.desc).map (fun d => d.parameters.length) = some na) (hna : av.length = na)
    (hR : fr + 1 ≤ R.frames ∧ 8 + (n + 11) + lo ≤ R.locals) (hl : ls.size = nL) (hst : rest = av.reverse ++ .ref a :: st0) (hroom : (st0.map fun v => v.category).sum ≤ 8) (hdg : decode cc pc = .ok (.invokespecial idx, 3)) (hcl : cells + mc ≤ R.cells ∧ slots + ms ≤ R.slots)
    (kk : ∀ (X' : va_W) (H1 : Heap) (locs1 : List Loc), Post X' → Wd G s A (wr ++ X') H1 locs1 → W p l e R s m args below meth c H1 locs1 (cells + mc) (slots + ms) Q (F0 m (pc + 3) ls st0)) : W p l e R s m args below meth c H locs cells slots Q (F0 m pc ls rest) :=
  backN hw hA isC isR hCm hRm hn hdis (va_runI (As := av) ⟨F.x, F.b, F.ml, F.ow, F.ts⟩ (hC H.size) (cwI na F.ts (GoodIn_BG hin) rfl rfl rfl (F.ts _ hini) (F.ts _ hlk) (F.ts _ him) hy1 hd hR) ⟨HdN.blind _, fun U hU hW => ⟨rfl, hdN hw isC hCm hnC F.nk hO U hU hW⟩⟩ rfl hna hl hst (lv_room hroom) hdg hcl) kk
/-- the same, of a nest mate's private constructor -/
theorem ctIN {y : MethodName} {b : ByteArray} {n fr lo mc ms idx na : Nat} {av st0 : List Value} {a : Nat} {wc wr : va_W} {Post : va_W → Prop} {host : String}
    (F : Fx p s m args meth c cc nL own ret) (hO : va_AOA .long s) (hw : Wd G s A X H locs) (hA : ∀ q, s.heap.size ≤ q → A q) (hC : CtN l G y b n fr lo mc ms (.ref a :: av) wc Post)
    (isC isR : List Nat) (hCm : isC.map (fun i => X[i]?) = wc.map some) (hRm : isR.map (fun i => X[i]?) = wr.map some) (hnC : va_nd isC = true) (hn : va_nd isR = true) (hdis : ∀ i ∈ isR, i ∉ isC)
    (hin : ∀ w ∈ .code y b n none :: BG, w ∈ BG) (hini : Cond.initialized y.cls ∈ BG) (hlk : Cond.methodLinkNest own idx y host ∈ NWs) (him : Cond.instanceMethod y ∈ BG) (hy1 : y.name = "<init>") (hd : y.cls ≠ "java/lang/invoke/MethodHandle" ∧ y.cls ≠ "java/lang/invoke/VarHandle" ∧ (parseMethodDescriptor y.desc).map (fun d => d.parameters.length) = some na) (hna : av.length = na)
    (hR : fr + 1 ≤ R.frames ∧ 8 + (n + 11) + lo ≤ R.locals) (hl : ls.size = nL) (hst : rest = av.reverse ++ .ref a :: st0) (hroom : (st0.map fun v => v.category).sum ≤ 8) (hdg : decode cc pc = .ok (.invokespecial idx, 3)) (hcl : cells + mc ≤ R.cells ∧ slots + ms ≤ R.slots)
    (kk : ∀ (X' : va_W) (H1 : Heap) (locs1 : List Loc), Post X' → Wd G s A (wr ++ X') H1 locs1 → W p l e R s m args below meth c H1 locs1 (cells + mc) (slots + ms) Q (F0 m (pc + 3) ls st0)) : W p l e R s m args below meth c H locs cells slots Q (F0 m pc ls rest) :=
  backN hw hA isC isR hCm hRm hn hdis (va_runIN (As := av) ⟨F.x, F.b, F.ml, F.ow, F.ts⟩ (hC H.size) ⟨va_cnB na F.ts (GoodIn_BG hin) rfl rfl rfl (F.nk _ hlk) (F.ts _ hini) hd hR, hy1, F.ts _ him⟩ ⟨HdN.blind _, fun U hU hW => ⟨rfl, hdN hw isC hCm hnC F.nk hO U hU hW⟩⟩ rfl hna hl hst (lv_room hroom) hdg hcl) kk
end FN
section FL
variable {p : Program} {l : Launch} {e : Env} {R : Room} {s : State} {m : MethodId} {args : Array Value} {below : List Frame} {meth : Method} {c : Code} {H : Heap} {locs : List Loc} {cells slots : Nat} {Q : State → Prop}
variable {cc : ByteArray} {nL : Nat} {own : String} {ret0 : Option FieldType} {pc : Nat} {ls : Array Slot} {rest : List Value} {G : GG} {A : Nat → Prop} {X X' : va_W} {r : Option Value}
theorem Wd.backL {st0 : List Value} (hw : Wd G s A X H locs) (hA : ∀ q, s.heap.size ≤ q → A q)
    (hr : va_Run p l e R s m args below meth c H locs cells slots 0 0 (F0 m pc ls rest) st0 (fun st oc t => oc = .returned r ∧ Td G X X' H.size st t) (va_A X H.size))
    (kk : ∀ (H1 : Heap) (locs1 : List Loc), Wd G s A X' H1 locs1 → W p l e R s m args below meth c H1 locs1 cells slots Q (F0 m (pc + 3) ls (r.toList ++ st0))) : W p l e R s m args below meth c H locs cells slots Q (F0 m pc ls rest) := by
  have hF := hw.free hA
  obtain ⟨hK, hP, hD, hS⟩ := hw
  intro T hT Xs
  obtain ⟨v, st₀, t, T', L, h0, X1, hL, e1, e2, ⟨hv, hP1, hK1, hD1, hz, hk⟩, st⟩ := hr T hT Xs
  cases hv
  rw [h0] at hz hk
  obtain ⟨t2, a1, b1⟩ := kk T'.heap (locs ++ L) ⟨hK, by rw [e1]; exact hP1, ⟨hD1.1, fun k q hq => hF _ (hD1.2 k q hq)⟩,
    ⟨Nat.le_trans hS.1 (by rw [e1]; exact hz), fun q h1 h2 => by rw [e1, hk q (Nat.lt_of_lt_of_le h1 hS.1) (fun z => h2 (hF q z))]; exact hS.2.1 q h1 h2, fun q hq => by
      rcases List.mem_append.mp hq with h | h
      · exact hS.2.2 q h
      · exact hF _ (hL q h)⟩⟩ T' rfl X1
  exact ⟨t2, st t2 a1, b1⟩
theorem ctL {y : MethodName} {b : ByteArray} {n fr lo idx na : Nat} {ret' : Option FieldType} {av st0 : List Value} {a : Nat} {C : String} {T : u_T} {N ci : Nat} {fs : List Value}
    (F : Fx p s m args meth c cc nL own ret0) (hw : Wd G s A X H locs) (hA : ∀ q, s.heap.size ≤ q → A q) (hC : Ct l G y b n ret' fr lo (.ref a :: av) X r X')
    (hin : ∀ w ∈ wsV own idx C y (.code y b n ret' :: BG), w ∈ BG) (hd : y.cls = C ∧ y.cls ≠ "java/lang/invoke/MethodHandle" ∧ y.cls ≠ "java/lang/invoke/VarHandle" ∧ (parseMethodDescriptor y.desc).map (fun d => d.parameters.length) = some na) (hna : av.length = na)
    (hR : fr + 1 ≤ R.frames ∧ 8 + (n + 11) + lo ≤ R.locals) (hf : cells ≤ R.cells ∧ slots ≤ R.slots) (q0 : Nat) (hq : X[q0]? = some (a, .inr (ci, fs))) (hc : classes[ci]? = some (C, T, N)) (hl : ls.size = nL) (hst : rest = av.reverse ++ .ref a :: st0) (hroom : (st0.map fun v => v.category).sum ≤ 8) (hdg : decode cc pc = .ok (.invokevirtual idx, 3))
    {st1 : List Value} (hs : r.toList ++ st0 = st1) (kk : ∀ (H1 : Heap) (locs1 : List Loc), Wd G s A X' H1 locs1 → W p l e R s m args below meth c H1 locs1 cells slots Q (F0 m (pc + 3) ls st1)) : W p l e R s m args below meth c H locs cells slots Q (F0 m pc ls rest) := by
  refine hw.backL hA (va_runV (As := av) ⟨F.x, F.b, F.ml, F.ow, F.ts⟩ (hC H.size) (cwV na F.ts (GoodIn_BG hin) rfl rfl rfl hd hR) ⟨Hd.blind _, va_recv hw.1 hw.2.1 hc hq, fun U hU hW => ⟨rfl, hd_of hw F.nk U hU hW⟩⟩ rfl hna hl hst (lv_room hroom) hdg ⟨hf.1, hf.2⟩) (by rw [hs]; exact kk)
end FL

