/-! a throw leaves one new cell: the kit's rows with the heap's size said exactly -/
section
variable {p : Program} {l : Launch} {e : Env} {R : Room} {s : State} {m : MethodId} {args : Array Value} {below : List Frame} {meth : Method} {c : Code} {H : Heap} {locs : List Loc} {cells slots : Nat} {Q : State → Prop}
variable {mc ms : Nat} {free : Addr → Prop} {A0 A1 : Nat → Prop} {H0 : Heap} {a : Array Value} {ls : Array Slot} {st0 rest : List Value}
variable {Qc : Array Value → State → Outcome → State → Prop} {XC : String → State → State → Prop}
theorem wx_throwS {cc : ByteArray} {pc : Nat} (hexec : p.tables.exec = Jvm.exec) (hb : c.code = cc) (hl : l.stackTraces = false) {own cls text : String} {names : List String} {ik is ic mc ms sa : Nat} {A : Nat → Prop}
    (hown : s.vm.findClass own = some m.cls) (hcls : Bundle.fit cls = true) (hnames : ∀ n ∈ names, Bundle.fit n = true)
    (hk : (Cond.classLink own ik cls).before args s = true) (hini : (Cond.initialized cls).before args s = true) (hstr : vk_R own is text sa s) (hat : ∀ w ∈ vx_atS own ic cls names, w.before args s = true)
    (hgood : ∀ w ∈ Cond.classLink own ik cls :: Cond.initialized cls :: vx_atS own ic cls names, vx_ot w = true)
    (hU : vx_Zq Bundle.tN "UNASSIGNED_STACK" Bundle.steD A s s.heap) (hN : vx_Zq Bundle.tN "SUPPRESSED_SENTINEL" Bundle.listD A s s.heap) (hS : va_S A s.heap H locs) (hsize : ls.size = c.maxLocals)
    (d0 : decode cc pc = .ok (.new ik, 3)) (d3 : decode cc (pc + 3) = .ok (.dup, 1)) (d4 : decode cc (pc + 4) = .ok (.ldc is, 2)) (d6 : decode cc (pc + 6) = .ok (.invokespecial ic, 3)) (d9 : decode cc (pc + 9) = .ok (.athrow, 1))
    (hout : ∀ x ∈ c.exceptionTable.toList, covers x (pc + 9) = false)
    (hRframes : names.length + 3 < R.frames) (hRlocals : (rest.map fun v => v.category).sum + (13 * (names.length + 1) + 43) ≤ R.locals) (hRcells : cells + 1 ≤ R.cells) (hRslots : slots + 6 ≤ R.slots) (hlocks : meth.locks = false)
    (hx : ∀ t : State, s.vm.Alike t.vm → t.heap.size = H.size + 1 → (∀ q : Nat, q < H.size → t.heap[q]? = H[q]?) → XC cls s t)
    (hf : ∀ z ∈ locs, free z.base) (hc : cells + 1 ≤ mc) (hs : slots + 6 ≤ ms) :
    W p l e R s m args below meth c H locs cells slots (vx_MQ below Qc XC args s mc ms free) (F0 m pc ls rest) := by
  intro T hT X
  have htr : e.platform.stackTraces = false := (show e.platform.stackTraces = l.stackTraces by rw [X.admits.platform]).trans hl
  have Y := vx_rebase X (R' := { frames := R.frames, locals := R.locals, cells := 1, slots := 6 }) (Nat.le_refl _) (Nat.le_refl _) hRcells hRslots
  obtain ⟨s', hA⟩ : ∃ z, z = (T.setVm s.vm).setFrames (.invoking m args :: below) := ⟨_, rfl⟩
  rw [← hA] at Y
  have hvm : s'.vm = s.vm := by rw [hA]; rfl
  have hhp : s'.heap = H := by rw [hA]; exact hT
  have hW0 : s.WarmedH s'.vm := by rw [hvm]; exact State.WarmedH.refl s
  have hat' : ∀ w ∈ vx_atS own ic cls names, w.before args s' = true := fun w hw => vx_ot_at hW0 hvm.symm (hgood w (List.mem_cons_of_mem _ (List.mem_cons_of_mem _ hw))) (hat w hw)
  have hk' : (Cond.classLink own ik cls).before args s' = true := vx_ot_at hW0 hvm.symm (hgood _ List.mem_cons_self) hk
  have hini' : (Cond.initialized cls).before args s' = true := vx_ot_at hW0 hvm.symm (hgood _ (List.mem_cons_of_mem _ List.mem_cons_self)) hini
  have hU' : vx_Zq Bundle.tN "UNASSIGNED_STACK" Bundle.steD A s' s'.heap := by rw [hhp]; exact vx_Zq.moved hW0.alike (hU.kept hS.2.1)
  have hN' : vx_Zq Bundle.tN "SUPPRESSED_SENTINEL" Bundle.listD A s' s'.heap := by rw [hhp]; exact vx_Zq.moved hW0.alike (hN.kept hS.2.1)
  have h : ∀ w ∈ Bundle.ownAtoms own ic cls names, w.before args s' = true := vx_own hat' (vx_isRefq hU'.1) (vx_isRefq hN'.1) hU'.2.word hN'.2.word
  have hown' : s'.vm.findClass own = some m.cls := by rw [hvm]; exact hown
  have hins : (Cond.instantiable cls 6).before args s' = true := h _ (by simp [Bundle.ownAtoms])
  obtain ⟨vm₁, cX, kX, hfX, hkX, -, -, X₁, st1⟩ := Y.newCold hexec (own := own) (C := cls) (index := ik) (n := 6) hown' hk' hins hini'
    (g := F0 m pc ls rest) rfl (by rw [hb]; exact d0) (Nat.le_refl _) (Nat.le_refl _)
  generalize hT1 : (T.setVm vm₁).pushCell { cls := cX, slots := kX.instanceTypes.map defaultValue, vm := .none } = T1 at X₁ st1
  have hcat : (Value.ref T.heap.size).category = 1 := rfl
  have hcellA : T1.heap[T.heap.size]? = some (freshCell cX kX) := by rw [← hT1]; exact State.heap_pushCell_size _ _
  have d3' : decode c.code (pc + 3) = .ok (.dup, 1) := by rw [hb]; exact d3
  have d4' : decode c.code (pc + 4) = .ok (.ldc is, 2) := by rw [hb]; exact d4
  have hstr' : vk_R own is text sa s' := vk_R.warm hW0 hstr
  obtain ⟨U, hsteps, hrun, hend, hW, hsame, ce, hce, hO⟩ := X₁.ctorThrowS hexec htr (own := own) (cls := cls) (names := names) (ic := ic) hown' hcls hnames h (fun x hx => nomatch hx) hfX hkX hcellA (by rw [hhp, hT]; exact Nat.le_refl _) (msg := .ref sa) rfl
    (g := { method := m, pc := pc + 6, locals := ls, stack := .ref sa :: .ref T.heap.size :: .ref T.heap.size :: rest, locked := none }) rfl hsize rfl rfl (rest := rest) rfl
    (by rw [hb]; exact d6) (by rw [hb]; exact d9) hout hRframes (by simp only [List.map_cons, List.sum_cons, hcat]; omega) hlocks
  obtain ⟨f1, f2⟩ := vx_frame hsame
  rw [hhp] at f1 f2
  have hWs : s.WarmedH U.vm := State.WarmedH.trans hW0 hW
  have hsz9 : U.heap.size = H.size + 1 := by
    have h1 : T.heap.size < U.heap.size := (Array.getElem?_eq_some_iff.mp hce).1
    have h2 : U.heap.size ≤ s'.heap.size + (0 + 1) := hsame.2.2.1
    rw [hhp] at h2
    rw [hT] at h1
    omega
  have hcl : s.vm.findClass cls = some ce.cls := by
    have h9 := hO.cls
    rw [hvm] at h9
    exact h9
  have hall : s.sameButNew ({ U with vm := s.vm } : State) locs mc ms := by
    subst hA
    obtain ⟨e1, e2⟩ := hsame
    rw [State.setFrames_setFrames] at e1
    have h2 : (T.setVm s.vm).sameButNew ({ U with vm := s.vm } : State) [] (0 + 1) (0 + 6) := ⟨e1, e2⟩
    have h3 := X.same.trans h2
    rw [List.append_nil] at h3
    exact h3.mono hc hs
  refine ⟨U, ?_, .threw T.heap.size, hrun, hend, Or.inr ⟨T.heap.size, rfl, cls, ce, locs, hx U hWs.alike hsz9 (fun q hq => f2 q hq (fun z hz => nomatch hz)), hce, hO.vm, hcl, hWs, hall, hf⟩⟩
  refine st1 _ ?_
  show Steps p.tables e below (T1.setTop { method := m, pc := pc + 3, locals := ls, stack := .ref T.heap.size :: rest, locked := none }) _
  jvm_step X₁.here [X₁.here.top, hexec, d3', Value.category]
  exact X₁.ldcString hexec (own := own) (text := text) (index := is) (a := sa) hown' hstr'.1 hstr'.2
    (g := { method := m, pc := pc + 4, locals := ls, stack := .ref T.heap.size :: .ref T.heap.size :: rest, locked := none }) rfl d4' _ hsteps
theorem wx_throwSW {cc : ByteArray} {pc : Nat} (hexec : p.tables.exec = Jvm.exec) (hb : c.code = cc) (hl : l.stackTraces = false) {own cls text : String} {names : List String} {ik is ic mc ms sa : Nat} {A : Nat → Prop}
    (hown : s.vm.findClass own = some m.cls) (hcls : Bundle.fit cls = true) (hnames : ∀ n ∈ names, Bundle.fit n = true)
    (hk : (Cond.classLink own ik cls).before args s = true) (hini : (Cond.initialized cls).before args s = true) (hstr : vk_R own is text sa s) (hat : ∀ w ∈ vx_atS own ic cls names, w.before args s = true)
    (hgood : ∀ w ∈ Cond.classLink own ik cls :: Cond.initialized cls :: vx_atS own ic cls names, vx_ot w = true)
    (hU : vx_Zq Bundle.tN "UNASSIGNED_STACK" Bundle.steD A s s.heap) (hN : vx_Zq Bundle.tN "SUPPRESSED_SENTINEL" Bundle.listD A s s.heap) (hS : va_S A s.heap H locs) (hsize : ls.size = c.maxLocals)
    (d0 : decode cc pc = .ok (.new ik, 3)) (d3 : decode cc (pc + 3) = .ok (.dup, 1)) (d4 : decode cc (pc + 4) = .ok (.ldc_w is, 3)) (d7 : decode cc (pc + 7) = .ok (.invokespecial ic, 3)) (d10 : decode cc (pc + 10) = .ok (.athrow, 1))
    (hout : ∀ x ∈ c.exceptionTable.toList, covers x (pc + 10) = false)
    (hRframes : names.length + 3 < R.frames) (hRlocals : (rest.map fun v => v.category).sum + (13 * (names.length + 1) + 43) ≤ R.locals) (hRcells : cells + 1 ≤ R.cells) (hRslots : slots + 6 ≤ R.slots) (hlocks : meth.locks = false)
    (hx : ∀ t : State, s.vm.Alike t.vm → t.heap.size = H.size + 1 → (∀ q : Nat, q < H.size → t.heap[q]? = H[q]?) → XC cls s t)
    (hf : ∀ z ∈ locs, free z.base) (hc : cells + 1 ≤ mc) (hs : slots + 6 ≤ ms) :
    W p l e R s m args below meth c H locs cells slots (vx_MQ below Qc XC args s mc ms free) (F0 m pc ls rest) := by
  intro T hT X
  have htr : e.platform.stackTraces = false := (show e.platform.stackTraces = l.stackTraces by rw [X.admits.platform]).trans hl
  have Y := vx_rebase X (R' := { frames := R.frames, locals := R.locals, cells := 1, slots := 6 }) (Nat.le_refl _) (Nat.le_refl _) hRcells hRslots
  obtain ⟨s', hA⟩ : ∃ z, z = (T.setVm s.vm).setFrames (.invoking m args :: below) := ⟨_, rfl⟩
  rw [← hA] at Y
  have hvm : s'.vm = s.vm := by rw [hA]; rfl
  have hhp : s'.heap = H := by rw [hA]; exact hT
  have hW0 : s.WarmedH s'.vm := by rw [hvm]; exact State.WarmedH.refl s
  have hat' : ∀ w ∈ vx_atS own ic cls names, w.before args s' = true := fun w hw => vx_ot_at hW0 hvm.symm (hgood w (List.mem_cons_of_mem _ (List.mem_cons_of_mem _ hw))) (hat w hw)
  have hk' : (Cond.classLink own ik cls).before args s' = true := vx_ot_at hW0 hvm.symm (hgood _ List.mem_cons_self) hk
  have hini' : (Cond.initialized cls).before args s' = true := vx_ot_at hW0 hvm.symm (hgood _ (List.mem_cons_of_mem _ List.mem_cons_self)) hini
  have hU' : vx_Zq Bundle.tN "UNASSIGNED_STACK" Bundle.steD A s' s'.heap := by rw [hhp]; exact vx_Zq.moved hW0.alike (hU.kept hS.2.1)
  have hN' : vx_Zq Bundle.tN "SUPPRESSED_SENTINEL" Bundle.listD A s' s'.heap := by rw [hhp]; exact vx_Zq.moved hW0.alike (hN.kept hS.2.1)
  have h : ∀ w ∈ Bundle.ownAtoms own ic cls names, w.before args s' = true := vx_own hat' (vx_isRefq hU'.1) (vx_isRefq hN'.1) hU'.2.word hN'.2.word
  have hown' : s'.vm.findClass own = some m.cls := by rw [hvm]; exact hown
  have hins : (Cond.instantiable cls 6).before args s' = true := h _ (by simp [Bundle.ownAtoms])
  obtain ⟨vm₁, cX, kX, hfX, hkX, -, -, X₁, st1⟩ := Y.newCold hexec (own := own) (C := cls) (index := ik) (n := 6) hown' hk' hins hini'
    (g := F0 m pc ls rest) rfl (by rw [hb]; exact d0) (Nat.le_refl _) (Nat.le_refl _)
  generalize hT1 : (T.setVm vm₁).pushCell { cls := cX, slots := kX.instanceTypes.map defaultValue, vm := .none } = T1 at X₁ st1
  have hcat : (Value.ref T.heap.size).category = 1 := rfl
  have hcellA : T1.heap[T.heap.size]? = some (freshCell cX kX) := by rw [← hT1]; exact State.heap_pushCell_size _ _
  have d3' : decode c.code (pc + 3) = .ok (.dup, 1) := by rw [hb]; exact d3
  have d4' : decode c.code (pc + 4) = .ok (.ldc_w is, 3) := by rw [hb]; exact d4
  have hstr' : vk_R own is text sa s' := vk_R.warm hW0 hstr
  obtain ⟨U, hsteps, hrun, hend, hW, hsame, ce, hce, hO⟩ := X₁.ctorThrowS hexec htr (own := own) (cls := cls) (names := names) (ic := ic) hown' hcls hnames h (fun x hx => nomatch hx) hfX hkX hcellA (by rw [hhp, hT]; exact Nat.le_refl _) (msg := .ref sa) rfl
    (g := { method := m, pc := pc + 7, locals := ls, stack := .ref sa :: .ref T.heap.size :: .ref T.heap.size :: rest, locked := none }) rfl hsize rfl rfl (rest := rest) rfl
    (by rw [hb]; exact d7) (by rw [hb]; exact d10) hout hRframes (by simp only [List.map_cons, List.sum_cons, hcat]; omega) hlocks
  obtain ⟨f1, f2⟩ := vx_frame hsame
  rw [hhp] at f1 f2
  have hWs : s.WarmedH U.vm := State.WarmedH.trans hW0 hW
  have hsz9 : U.heap.size = H.size + 1 := by
    have h1 : T.heap.size < U.heap.size := (Array.getElem?_eq_some_iff.mp hce).1
    have h2 : U.heap.size ≤ s'.heap.size + (0 + 1) := hsame.2.2.1
    rw [hhp] at h2
    rw [hT] at h1
    omega
  have hcl : s.vm.findClass cls = some ce.cls := by
    have h9 := hO.cls
    rw [hvm] at h9
    exact h9
  have hall : s.sameButNew ({ U with vm := s.vm } : State) locs mc ms := by
    subst hA
    obtain ⟨e1, e2⟩ := hsame
    rw [State.setFrames_setFrames] at e1
    have h2 : (T.setVm s.vm).sameButNew ({ U with vm := s.vm } : State) [] (0 + 1) (0 + 6) := ⟨e1, e2⟩
    have h3 := X.same.trans h2
    rw [List.append_nil] at h3
    exact h3.mono hc hs
  refine ⟨U, ?_, .threw T.heap.size, hrun, hend, Or.inr ⟨T.heap.size, rfl, cls, ce, locs, hx U hWs.alike hsz9 (fun q hq => f2 q hq (fun z hz => nomatch hz)), hce, hO.vm, hcl, hWs, hall, hf⟩⟩
  refine st1 _ ?_
  show Steps p.tables e below (T1.setTop { method := m, pc := pc + 3, locals := ls, stack := .ref T.heap.size :: rest, locked := none }) _
  jvm_step X₁.here [X₁.here.top, hexec, d3', Value.category]
  exact X₁.ldcStringW hexec (own := own) (text := text) (index := is) (a := sa) hown' hstr'.1 hstr'.2
    (g := { method := m, pc := pc + 4, locals := ls, stack := .ref T.heap.size :: .ref T.heap.size :: rest, locked := none }) rfl d4' _ hsteps
end
def wexn (e : Nat) : String := if e = 1 then "java/lang/IllegalArgumentException" else if e = 2 then "java/lang/IllegalStateException" else "java/lang/IndexOutOfBoundsException"
def wrI (r : Int32 ⊕ Nat) : Option AV ⊕ String := match r with
  | .inl x => .inl (some (.inl x))
  | .inr e => .inr (wexn e)
def wrL (r : Int64 ⊕ Nat) : Option AV ⊕ String := match r with
  | .inl x => .inl (some (.inr (.inl x)))
  | .inr e => .inr (wexn e)
def wrR (r : Nat ⊕ Nat) : Option AV ⊕ String := match r with
  | .inl x => .inl (some (.inr (.inr x)))
  | .inr e => .inr (wexn e)
def wrV (r : Unit ⊕ Nat) : Option AV ⊕ String := match r with
  | .inl _ => .inl none
  | .inr e => .inr (wexn e)
def wtry {T S : Type} (x : Option ((T ⊕ Nat) × Hp)) (k : T → Hp → Option ((S ⊕ Nat) × Hp)) : Option ((S ⊕ Nat) × Hp) := match x with
  | none => none
  | some (.inl v, A) => k v A
  | some (.inr e, A) => some (.inr e, A)
theorem wtryE {T S : Type} {x : Option ((T ⊕ Nat) × Hp)} {k : T → Hp → Option ((S ⊕ Nat) × Hp)} {r : (S ⊕ Nat) × Hp} (h : wtry x k = some r) : (∃ v A, x = some (.inl v, A) ∧ k v A = some r) ∨ ∃ e A, x = some (.inr e, A) ∧ some (.inr e, A) = some r := by
  match x with
  | none => cases h
  | some (.inl v, A) => exact Or.inl ⟨v, A, rfl, h⟩
  | some (.inr e, A) => exact Or.inr ⟨e, A, rfl, h⟩
theorem wRn {C : String} (g : GT) (x : Nat) : narrow (.object C) (wrv g x) = wrv g x := by
  unfold wrv
  cases wro g x <;> rfl
theorem wRf {C : String} (g : GT) (x : Nat) : fits (.object C) (wrv g x) = true := by
  unfold wrv
  cases wro g x <;> rfl
theorem wAn {t : FieldType} (g : GT) (x : Nat) : narrow (.array t) (wrv g x) = wrv g x := by
  unfold wrv
  cases wro g x <;> rfl
theorem wAf {t : FieldType} (g : GT) (x : Nat) : fits (.array t) (wrv g x) = true := by
  unfold wrv
  cases wro g x <;> rfl
abbrev wSn (x : Nat) : Prop := 1 ≤ x ∧ x ≤ 36
abbrev wBn (x : Nat) : Prop := 41 ≤ x ∧ x ≤ 76
section
variable {κ : KT} {cc : ByteArray} {nL : Nat} {own nm : String} {fr lo mc ms : Nat} {A B : Hp} {c n pc : Nat} {L : List (Nat × AV)} {st : List AV} {ret : Option FieldType}
theorem Ed.thI {r : Int32 ⊕ Nat} {e : Nat} (E : Ed κ ret nm (wrI r) B mc ms) (h : (some (.inr e, A) : Option ((Int32 ⊕ Nat) × Hp)) = some (r, B)) : Ed κ ret nm (.inr (wexn e)) A mc ms := by
  cases h; exact E
theorem Ed.thL {r : Int64 ⊕ Nat} {e : Nat} (E : Ed κ ret nm (wrL r) B mc ms) (h : (some (.inr e, A) : Option ((Int64 ⊕ Nat) × Hp)) = some (r, B)) : Ed κ ret nm (.inr (wexn e)) A mc ms := by
  cases h; exact E
theorem Ed.thR {r : Nat ⊕ Nat} {e : Nat} (E : Ed κ ret nm (wrR r) B mc ms) (h : (some (.inr e, A) : Option ((Nat ⊕ Nat) × Hp)) = some (r, B)) : Ed κ ret nm (.inr (wexn e)) A mc ms := by
  cases h; exact E
theorem Ed.thV {r : Unit ⊕ Nat} {e : Nat} (E : Ed κ ret nm (wrV r) B mc ms) (h : (some (.inr e, A) : Option ((Unit ⊕ Nat) × Hp)) = some (r, B)) : Ed κ ret nm (.inr (wexn e)) A mc ms := by
  cases h; exact E
theorem Vw.iretT (K : Cx κ cc nL own fr lo mc ms) {x : Int32} {r : Int32 ⊕ Nat} (h : (some (.inl x, A) : Option ((Int32 ⊕ Nat) × Hp)) = some (r, B)) (E : Ed κ (some .int) nm (wrI r) B mc ms) (hc : c ≤ mc) (hn : n ≤ ms) (d : decode cc pc = .ok (.ireturn, 1)) : Vw κ A c n pc L [.inl x] := by
  cases h; exact Vw.iret K E hc hn d
theorem Vw.zretT (K : Cx κ cc nL own fr lo mc ms) {x : Int32} (hz : wZ x) {r : Int32 ⊕ Nat} (h : (some (.inl x, A) : Option ((Int32 ⊕ Nat) × Hp)) = some (r, B)) (E : Ed κ (some .boolean) nm (wrI r) B mc ms) (hc : c ≤ mc) (hn : n ≤ ms) (d : decode cc pc = .ok (.ireturn, 1)) : Vw κ A c n pc L [.inl x] := by
  cases h; exact Vw.zret K hz E hc hn d
theorem Vw.lretT (K : Cx κ cc nL own fr lo mc ms) {x : Int64} {r : Int64 ⊕ Nat} (h : (some (.inl x, A) : Option ((Int64 ⊕ Nat) × Hp)) = some (r, B)) (E : Ed κ (some .long) nm (wrL r) B mc ms) (hc : c ≤ mc) (hn : n ≤ ms) (d : decode cc pc = .ok (.lreturn, 1)) : Vw κ A c n pc L [.inr (.inl x)] := by
  cases h; exact Vw.lret K E hc hn d
theorem Vw.aretT (K : Cx κ cc nL own fr lo mc ms) {x : Nat} {C : String} {r : Nat ⊕ Nat} (h : (some (.inl x, A) : Option ((Nat ⊕ Nat) × Hp)) = some (r, B)) (E : Ed κ (some (.object C)) nm (wrR r) B mc ms) (hc : c ≤ mc) (hn : n ≤ ms) (d : decode cc pc = .ok (.areturn, 1)) : Vw κ A c n pc L [.inr (.inr x)] := by
  cases h; exact Vw.aret K E hc hn d
theorem Vw.vretT (K : Cx κ cc nL own fr lo mc ms) {r : Unit ⊕ Nat} (h : (some (.inl (), A) : Option ((Unit ⊕ Nat) × Hp)) = some (r, B)) (E : Ed κ none nm (wrV r) B mc ms) (hc : c ≤ mc) (hn : n ≤ ms) (d : decode cc pc = .ok (.return_, 1)) : Vw κ A c n pc L [] := by
  cases h; exact Vw.vret K E hc hn d
theorem Vw.ishr (K : Cx κ cc nL own fr lo mc ms) {x y : Int32} (d : decode cc pc = .ok (.ishr, 1)) (k : Vw κ A c n (pc + 1) L (.inl (x >>> (y &&& 31)) :: st)) : Vw κ A c n pc L (.inl y :: .inl x :: st) := Vw.go (fun _ _ _ k => lv_ishr K.1 K.2.1 d k) k
theorem Vw.ldcS (K : Cx κ cc nL own fr lo mc ms) {k i : Nat} {tx : String} (hk : wst[k]? = some (own, i, tx)) (h36 : k < 36) (d : decode cc pc = .ok (.ldc i, 2)) (kk : Vw κ A c n (pc + 2) L (.inr (.inr (k + 1)) :: st)) : Vw κ A c n pc L st := by
  intro H locs ls h1 h2 h3 h4
  have hk9 := kk H locs ls h1 h2 h3 h4
  change W _ _ _ _ _ _ _ _ _ _ H locs c n _ (F0 _ (pc + 2) ls (wrv κ.2.2.2 (k + 1) :: st.map (wcv κ.2.2.2))) at hk9
  have had : wrv κ.2.2.2 (k + 1) = .ref (κ.2.2.2.2.2.2.2 (k + 1)) := by
    rw [wrv_ne _ (by omega)]
    unfold wad
    rw [if_pos (by omega)]
  rw [had] at hk9
  exact va_ldcS K.1 K.2.1 K.2.2.2.1 (K.2.2.2.2.2.2.2.1.1 k _ hk) d hk9
theorem Vw.gstD (K : Cx κ cc nL own fr lo mc ms) {i : Nat} (hw : Cond.fieldLink own i "CookieJar$Dates" "DAYS_BEFORE" "[I" ∈ uw) (d : decode cc pc = .ok (.getstatic i, 3)) (kk : Vw κ A c n (pc + 3) L (.inr (.inr 90) :: st)) : Vw κ A c n pc L st :=
  fun H locs ls h1 h2 h3 h4 => va_gets K.1 K.2.1 K.2.2.2.2.2.2.2.1.2.2.1 (K.S h1 h2 h3) K.2.2.2.1 (K.2.2.2.2.1 _ hw) (fun _ h => h) d (kk H locs ls h1 h2 h3 h4)
theorem Vw.dload (K : Cx κ cc nL own fr lo mc ms) {i : Int32} (hi : wix i 13) (d : decode cc pc = .ok (.iaload, 1)) (kk : Vw κ A c n (pc + 1) L (.inl (wdy i.toNatClampNeg) :: st)) : Vw κ A c n pc L (.inl i :: .inr (.inr 90) :: st) := by
  intro H locs ls h1 h2 h3 h4
  obtain ⟨cell, t1, t2, t3, t4, t5, t6, t7⟩ := (K.2.2.2.2.2.2.2.1.2.2.2.1).kept (K.S h1 h2 h3).2.1
  exact W.iald (v := .int (wdy i.toNatClampNeg)) K.1 K.2.1 t1 t2 t3 (fun q => q.elim (fun q => absurd hi.1 (Int32.not_le.mpr q)) (fun q => absurd (Nat.lt_of_lt_of_le hi.2 t4) (Nat.not_lt.mpr q))) (t6 _ hi.2) rfl rfl d (kk H locs ls h1 h2 h3 h4)
theorem Vw.gstC (K : Cx κ cc nL own fr lo mc ms) {i : Nat} (hw : Cond.fieldLink own i "java/lang/String" "COMPACT_STRINGS" "Z" ∈ uw) (d : decode cc pc = .ok (.getstatic i, 3)) (kk : Vw κ A c n (pc + 3) L (.inl 1 :: st)) : Vw κ A c n pc L st :=
  fun H locs ls h1 h2 h3 h4 => va_gets K.1 K.2.1 K.2.2.2.2.2.2.2.1.2.2.2.2.1 (K.S h1 h2 h3) K.2.2.2.1 (K.2.2.2.2.1 _ hw) (fun _ h => h) d (kk H locs ls h1 h2 h3 h4)
theorem Vw.gstF (K : Cx κ cc nL own fr lo mc ms) {i : Nat} (hw : Cond.fieldLink own i "jdk/internal/util/Preconditions" "SIOOBE_FORMATTER" "Ljava/util/function/BiFunction;" ∈ uw) (d : decode cc pc = .ok (.getstatic i, 3)) (kk : ∀ x : Nat, Vw κ A c n (pc + 3) L (.inr (.inr x) :: st)) : Vw κ A c n pc L st := by
  intro H locs ls h1 h2 h3 h4
  rcases K.2.2.2.2.2.2.2.1.2.2.2.2.2.1 with hz | hz
  · exact va_gets K.1 K.2.1 hz (K.S h1 h2 h3) K.2.2.2.1 (K.2.2.2.2.1 _ hw) (fun _ h => h) d (kk 0 H locs ls h1 h2 h3 h4)
  · exact va_gets K.1 K.2.1 hz (K.S h1 h2 h3) K.2.2.2.1 (K.2.2.2.2.1 _ hw) (fun _ h => h) d (kk 91 H locs ls h1 h2 h3 h4)
theorem wSad {g : GT} {x : Nat} (h : wSn x) : wrv g x = .ref (g.2.2.2.2 (x - 1 + 1)) := by
  rw [wrv_ne g (by omega)]
  unfold wad
  rw [if_pos (by omega), show x - 1 + 1 = x by omega]
theorem Vw.getSC (K : Cx κ cc nL own fr lo mc ms) {i x : Nat} (hx : wSn x) (hw : Cond.fieldLink own i "java/lang/String" "coder" "B" ∈ uw) (d : decode cc pc = .ok (.getfield i, 3)) (kk : Vw κ A c n (pc + 3) L (.inl 0 :: st)) : Vw κ A c n pc L (.inr (.inr x) :: st) := by
  intro H locs ls h1 h2 h3 h4
  show W _ _ _ _ _ _ _ _ _ _ H locs c n _ (F0 _ pc ls (wrv κ.2.2.2 x :: st.map (wcv κ.2.2.2)))
  rw [wSad hx]
  exact vk_getf K.1 K.2.1 (K.2.2.2.2.2.2.2.1.2.1 (x - 1) (by omega)).2.1 (K.S h1 h2 h3) K.2.2.2.1 (K.2.2.2.2.1 _ hw) (fun _ h => h) d (kk H locs ls h1 h2 h3 h4)
theorem Vw.getSV (K : Cx κ cc nL own fr lo mc ms) {i x : Nat} (hx : wSn x) (hw : Cond.fieldLink own i "java/lang/String" "value" "[B" ∈ uw) (d : decode cc pc = .ok (.getfield i, 3)) (kk : Vw κ A c n (pc + 3) L (.inr (.inr (40 + x)) :: st)) : Vw κ A c n pc L (.inr (.inr x) :: st) := by
  intro H locs ls h1 h2 h3 h4
  have hk9 := kk H locs ls h1 h2 h3 h4
  change W _ _ _ _ _ _ _ _ _ _ H locs c n _ (F0 _ (pc + 3) ls (wrv κ.2.2.2 (40 + x) :: st.map (wcv κ.2.2.2))) at hk9
  have had : wrv κ.2.2.2 (40 + x) = .ref (κ.2.2.2.2.2.2.2 (x - 1 + 41)) := by
    rw [wrv_ne _ (by omega)]
    unfold wad
    rw [if_pos (by omega), show x - 1 + 41 = 40 + x by omega]
  rw [had] at hk9
  show W _ _ _ _ _ _ _ _ _ _ H locs c n _ (F0 _ pc ls (wrv κ.2.2.2 x :: st.map (wcv κ.2.2.2)))
  rw [wSad hx]
  exact vk_getf K.1 K.2.1 (K.2.2.2.2.2.2.2.1.2.1 (x - 1) (by omega)).2.2.1 (K.S h1 h2 h3) K.2.2.2.1 (K.2.2.2.2.1 _ hw) (fun _ h => h) d hk9
theorem wBad {g : GT} {x : Nat} (h : wBn x) : wrv g x = .ref (g.2.2.2.2 (x - 41 + 41)) := by
  rw [wrv_ne g (by omega)]
  unfold wad
  rw [if_pos (by omega), show x - 41 + 41 = x by omega]
theorem Vw.alenB (K : Cx κ cc nL own fr lo mc ms) {x : Nat} (hx : wBn x) (d : decode cc pc = .ok (.arraylength, 1)) (kk : Vw κ A c n (pc + 1) L (.inl (nI (wsc (x - 40)).length) :: st)) : Vw κ A c n pc L (.inr (.inr x) :: st) := by
  intro H locs ls h1 h2 h3 h4
  show W _ _ _ _ _ _ _ _ _ _ H locs c n _ (F0 _ pc ls (wrv κ.2.2.2 x :: st.map (wcv κ.2.2.2)))
  rw [wBad hx]
  obtain ⟨cell, t1, t2, t3, t4, t5, t6, t7⟩ := (K.2.2.2.2.2.2.2.1.2.1 (x - 41) (by omega)).2.2.2.kept (K.S h1 h2 h3).2.1
  rw [show x - 41 + 1 = x - 40 by omega] at t4 t5 t6
  exact W.alen K.1 K.2.1 t1 t2 t5 rfl rfl d (kk H locs ls h1 h2 h3 h4)
theorem Vw.baldS (K : Cx κ cc nL own fr lo mc ms) {x : Nat} {i : Int32} (hx : wBn x) (hi : wix i (wsc (x - 40)).length) (d : decode cc pc = .ok (.baload, 1)) (kk : Vw κ A c n (pc + 1) L (.inl ((wsc (x - 40)).getD i.toNatClampNeg 0) :: st)) : Vw κ A c n pc L (.inl i :: .inr (.inr x) :: st) := by
  intro H locs ls h1 h2 h3 h4
  show W _ _ _ _ _ _ _ _ _ _ H locs c n _ (F0 _ pc ls (.int i :: wrv κ.2.2.2 x :: st.map (wcv κ.2.2.2)))
  rw [wBad hx]
  obtain ⟨cell, t1, t2, t3, t4, t5, t6, t7⟩ := (K.2.2.2.2.2.2.2.1.2.1 (x - 41) (by omega)).2.2.2.kept (K.S h1 h2 h3).2.1
  rw [show x - 41 + 1 = x - 40 by omega] at t4 t5 t6
  exact W.bald (v := .int ((wsc (x - 40)).getD i.toNatClampNeg 0)) K.1 K.2.1 t1 t2 t3 (fun q => q.elim (fun q => absurd hi.1 (Int32.not_le.mpr q)) (fun q => absurd (Nat.lt_of_lt_of_le hi.2 t4) (Nat.not_lt.mpr q))) (t6 _ hi.2) rfl rfl d (kk H locs ls h1 h2 h3 h4)
theorem Vw.bret (K : Cx κ cc nL own fr lo mc ms) {x r : Int32} {ty : FieldType} (hn9 : narrow ty (.int x) = .int x) (hx : x = r) (hA : A = B) (E : Ed κ (some ty) nm (.inl (some (.inl r))) B mc ms) (hc : c ≤ mc) (hn : n ≤ ms) (d : decode cc pc = .ok (.ireturn, 1)) : Vw κ A c n pc L [.inl x] := by
  subst hx; subst hA
  intro H locs ls h1 h2 h3 h4
  rw [E.1]
  exact vx_ret (W.widen hc hn (W.zret K.1 K.2.1 E.2.1 hn9 (fun t ht hW => ⟨⟨_, rfl, rfl⟩, by rw [ht]; exact h1, by rw [ht]; exact h2⟩) h3 d K.2.2.2.2.2.1))
/-- a call on a string of the constants -/
theorem Vw.cStr (K : Cx κ cc nL own fr lo mc ms) {y : MethodName} {bytes : ByteArray} {maxL i nA a : Nat} {As : List AV} {v : AV} {fr' lo' : Nat} {stk rest : List AV} (hM : MetV κ.1.2.1 κ.2.2.2 y (.code y bytes maxL ret) (.inr (.inr a) :: As) A (.inl (some v)) A fr' lo' 0 0) (hcal : wCalV "java/lang/String" y (.code y bytes maxL ret) nA) (hw : Cond.methodLink own i y ∈ uw) (ha : wSn a) (hnA : As.length = nA) (hR : fr' + 1 ≤ fr ∧ 8 + (maxL + 11) + lo' ≤ lo) (hf : c ≤ mc ∧ n ≤ ms) (hs : stk = As.reverse ++ .inr (.inr a) :: rest) (hst : (rest.map acat).sum ≤ 8) (d : decode cc pc = .ok (.invokevirtual i, 3)) (kk : Vw κ A c n (pc + 3) L (v :: rest)) : Vw κ A c n pc L stk := by
  refine Vw.ofRun (r := some v) (B := A) (rest := rest) (mc' := 0) (ms' := 0) (a := #[]) ?_ kk
  intro H locs ls h1 h2 h3 h4
  have had := wSad (g := κ.2.2.2) ha
  have hKx := K
  obtain ⟨k1, k2, k3, k4, k5, k6, k7, k8, k9, k10, k11, k12⟩ := K
  have hargs : (Value.ref (κ.2.2.2.2.2.2.2 (a - 1 + 1)) :: As.map (wcv κ.2.2.2)) = (.inr (.inr a) :: As : List AV).map (wcv κ.2.2.2) := by
    show _ = wrv κ.2.2.2 a :: _
    rw [had]
  have hstk : stk.map (wcv κ.2.2.2) = (As.map (wcv κ.2.2.2)).reverse ++ .ref (κ.2.2.2.2.2.2.2 (a - 1 + 1)) :: rest.map (wcv κ.2.2.2) := by
    rw [hs, List.map_append, List.map_reverse]
    show _ ++ wrv κ.2.2.2 a :: _ = _
    rw [had]
  obtain ⟨hd, w1, w2, w3, w4⟩ := hcal
  have hT : GoodIn uw (wsV own i "java/lang/String" y (.code y bytes maxL ret :: uw)) := uwG (fun w hw' => by
    rcases List.mem_append.mp hw' with h | h
    · simp only [List.mem_cons, List.not_mem_nil, or_false] at h
      rcases h with rfl | rfl | rfl | rfl
      · exact hw
      · exact w1
      · exact w2
      · exact w3
    · rcases List.mem_cons.mp h with rfl | h
      · exact w4
      · exact h)
  have hcw := cwV (R := κ.1.2.2.2.1) (mc := 0) (ms := 0) (rm := { frames := fr', cells := 0, slots := 0, locals := lo' }) nA k5 hT rfl rfl rfl hd (by rw [k11]; exact hR)
  obtain ⟨cell, q1, q2, q3, -⟩ := (k8.2.1 (a - 1) (by omega)).1.kept (hKx.S h1 h2 h3).2.1
  exact vx_runV (As := As.map (wcv κ.2.2.2)) (b := κ.2.2.2.2.2.2.2 (a - 1 + 1)) ⟨k1, k2, k3, k4, k5⟩ hM hcw ⟨wPc_blind, ⟨cell, q1, q2, q3⟩, fun U hU hW => by rw [hargs]; exact hKx.pre h1 h2 h3 hU hW⟩ rfl (by rw [List.length_map]; exact hnA) (by rw [← k3]; exact h4.1) hstk (lv_room (by rw [w_sum]; exact hst)) d (by rw [k11]; exact hf)
theorem Vw.mmax (K : Cx κ cc nL own fr lo mc ms) {i : Nat} {x y : Int32} (hw : Cond.methodLink own i Lib.Math.max.name ∈ uw) (hw2 : Cond.static Lib.Math.max.name ∈ uw) (hw3 : Cond.initialized "java/lang/Math" ∈ uw) (hw4 : Cond.code Lib.Math.max.name Lib.Math.max.code 2 (some .int) ∈ uw) (hfr : 1 ≤ fr) (hlo : (st.map acat).sum + 13 ≤ lo) (hc : c ≤ mc) (hn : n ≤ ms) (d : decode cc pc = .ok (.invokestatic i, 3)) (kk : Vw κ A c n (pc + 3) L (.inl (if x < y then y else x) :: st)) : Vw κ A c n pc L (.inl y :: .inl x :: st) := by
  intro H locs ls h1 h2 h3 h4
  obtain ⟨k1, k2, k3, k4, k5, k6, k7, k8, k9, k10, k11, k12⟩ := K
  exact va_mmax k1 k2 h4.1.symm k4 (k5 _ hw) (k5 _ hw2) (k5 _ hw3) (k5 _ hw4) (by rw [k11]; exact hfr) (by rw [k11, w_sum]; exact hlo) (by rw [k11]; exact hc) (by rw [k11]; exact hn) d (kk H locs ls h1 h2 h3 h4)
theorem Vw.mmin (K : Cx κ cc nL own fr lo mc ms) {i : Nat} {x y : Int32} (hw : Cond.methodLink own i Lib.Math.min.name ∈ uw) (hw2 : Cond.static Lib.Math.min.name ∈ uw) (hw3 : Cond.initialized "java/lang/Math" ∈ uw) (hw4 : Cond.code Lib.Math.min.name Lib.Math.min.code 2 (some .int) ∈ uw) (hfr : 1 ≤ fr) (hlo : (st.map acat).sum + 13 ≤ lo) (hc : c ≤ mc) (hn : n ≤ ms) (d : decode cc pc = .ok (.invokestatic i, 3)) (kk : Vw κ A c n (pc + 3) L (.inl (if y < x then y else x) :: st)) : Vw κ A c n pc L (.inl y :: .inl x :: st) := by
  intro H locs ls h1 h2 h3 h4
  obtain ⟨k1, k2, k3, k4, k5, k6, k7, k8, k9, k10, k11, k12⟩ := K
  exact va_mmin k1 k2 h4.1.symm k4 (k5 _ hw) (k5 _ hw2) (k5 _ hw3) (k5 _ hw4) (by rw [k11]; exact hfr) (by rw [k11, w_sum]; exact hlo) (by rw [k11]; exact hc) (by rw [k11]; exact hn) d (kk H locs ls h1 h2 h3 h4)
theorem Vw.mminL (K : Cx κ cc nL own fr lo mc ms) {i : Nat} {x y : Int64} (hw : Cond.methodLink own i Lib.MathLoose.min_long.x ∈ uw) (hw2 : Cond.static Lib.MathLoose.min_long.x ∈ uw) (hw3 : Cond.initialized "java/lang/Math" ∈ uw) (hw4 : Cond.code Lib.MathLoose.min_long.x Lib.MathLoose.min_long.code 4 (some .long) ∈ uw) (hfr : 1 ≤ fr) (hlo : (st.map acat).sum + 15 ≤ lo) (hc : c ≤ mc) (hn : n ≤ ms) (d : decode cc pc = .ok (.invokestatic i, 3)) (kk : Vw κ A c n (pc + 3) L (.inr (.inl (if y < x then y else x)) :: st)) : Vw κ A c n pc L (.inr (.inl y) :: .inr (.inl x) :: st) := by
  intro H locs ls h1 h2 h3 h4
  obtain ⟨k1, k2, k3, k4, k5, k6, k7, k8, k9, k10, k11, k12⟩ := K
  exact va_mmin_long k1 k2 h4.1.symm k4 (k5 _ hw) (k5 _ hw2) (k5 _ hw3) (k5 _ hw4) (by rw [k11]; exact hfr) (by rw [k11, w_sum]; exact hlo) (by rw [k11]; exact hc) (by rw [k11]; exact hn) d (kk H locs ls h1 h2 h3 h4)
end
section
variable {κ : KT} {cc : ByteArray} {nL : Nat} {nm : String} {fr lo mc ms : Nat} {A B : Hp} {c n pc : Nat} {L : List (Nat × AV)} {st : List AV} {ret : Option FieldType}
theorem tha1 (K : Cx κ cc nL RX8 fr lo mc ms) : ∀ w ∈ vx_atS RX8 40 "java/lang/IllegalArgumentException" ["java/lang/RuntimeException", "java/lang/Exception"], w.before κ.2.1.2.1 κ.1.2.2.2.2 = true := by
  obtain ⟨k1, k2, k3, k4, k5, k6, k7, k8, k9, k10, k11, k12⟩ := K
  refine vx_hat (fun w hw => k5 w (uw_mem (thg1 w hw) (List.mem_filter.mp hw).2)) thb1 ?_
  exact vx_c ((k8.2.2.2.2.2.2.2.2.2.2.2.1 _ (List.mem_of_getElem? (i := 0) rfl)).use rfl) (vx_c ((k8.2.2.2.2.2.2.2.2.2.2.2.2.1 _ (List.mem_of_getElem? (i := 0) rfl)).use rfl) (vx_c ((k8.2.2.2.2.2.2.2.2.2.2.2.2.1 _ (List.mem_of_getElem? (i := 1) rfl)).use rfl) (vx_c ((k8.2.2.2.2.2.2.2.2.2.2.2.2.1 _ (List.mem_of_getElem? (i := 2) rfl)).use rfl) vx_n)))
theorem Vw.throwS1 (K : Cx κ cc nL RX8 fr lo mc ms) {ik is k : Nat} {tx : String} (hE : Ed κ ret nm (.inr "java/lang/IllegalArgumentException") (hmk A 0 0) mc ms) (hk : wst[k]? = some (RX8, is, tx)) (hw : Cond.classLink RX8 ik "java/lang/IllegalArgumentException" ∈ uw) (hw2 : Cond.initialized "java/lang/IllegalArgumentException" ∈ uw) (d0 : decode cc pc = .ok (.new ik, 3)) (d3 : decode cc (pc + 3) = .ok (.dup, 1)) (d4 : decode cc (pc + 4) = .ok (.ldc is, 2)) (d6 : decode cc (pc + 6) = .ok (.invokespecial 40, 3)) (d9 : decode cc (pc + 9) = .ok (.athrow, 1)) (hfr : 5 < fr) (hlo : (st.map acat).sum + 82 ≤ lo) (hc : c + 1 ≤ mc) (hn : n + 6 ≤ ms) : Vw κ A c n pc L st := by
  intro H locs ls h1 h2 h3 h4
  rw [hE.1]
  have hat := tha1 K
  have hS := K.S h1 h2 h3
  obtain ⟨k1, k2, k3, k4, k5, k6, k7, k8, k9, k10, k11, k12⟩ := K
  exact wx_throwS k1 k2 k12 (names := ["java/lang/RuntimeException", "java/lang/Exception"]) k4 (by decide +kernel) (by decide +kernel) (k5 _ hw) (k5 _ hw2) (k8.1 k _ hk) hat (fun w hw' => by
      rcases List.mem_cons.mp hw' with rfl | hw'
      · rfl
      · rcases List.mem_cons.mp hw' with rfl | hw'
        · rfl
        · exact tho1 w hw') k8.2.2.2.2.2.2.1 k8.2.2.2.2.2.2.2.1 hS h4.1 d0 d3 d4 d6 d9 (fun x hx => (hE.2.2.2 x hx).elim) (by rw [k11]; exact hfr) (by rw [k11, w_sum]; exact hlo) (by rw [k11]; exact hc) (by rw [k11]; exact hn) k6
    (fun t _ hz hq => ⟨rfl, h1.push hz hq (fun e he => by rw [show wcl κ.2.2.2 (hmk A 0 0) (hsz A) = none by unfold wcl; rw [hsh_mk, if_pos rfl]; rfl] at he; cases he), by rw [hz]; omega⟩) h3 hc hn
theorem Vw.throwW1 (K : Cx κ cc nL RX8 fr lo mc ms) {ik is k : Nat} {tx : String} (hE : Ed κ ret nm (.inr "java/lang/IllegalArgumentException") (hmk A 0 0) mc ms) (hk : wst[k]? = some (RX8, is, tx)) (hw : Cond.classLink RX8 ik "java/lang/IllegalArgumentException" ∈ uw) (hw2 : Cond.initialized "java/lang/IllegalArgumentException" ∈ uw) (d0 : decode cc pc = .ok (.new ik, 3)) (d3 : decode cc (pc + 3) = .ok (.dup, 1)) (d4 : decode cc (pc + 4) = .ok (.ldc_w is, 3)) (d6 : decode cc (pc + 7) = .ok (.invokespecial 40, 3)) (d9 : decode cc (pc + 10) = .ok (.athrow, 1)) (hfr : 5 < fr) (hlo : (st.map acat).sum + 82 ≤ lo) (hc : c + 1 ≤ mc) (hn : n + 6 ≤ ms) : Vw κ A c n pc L st := by
  intro H locs ls h1 h2 h3 h4
  rw [hE.1]
  have hat := tha1 K
  have hS := K.S h1 h2 h3
  obtain ⟨k1, k2, k3, k4, k5, k6, k7, k8, k9, k10, k11, k12⟩ := K
  exact wx_throwSW k1 k2 k12 (names := ["java/lang/RuntimeException", "java/lang/Exception"]) k4 (by decide +kernel) (by decide +kernel) (k5 _ hw) (k5 _ hw2) (k8.1 k _ hk) hat (fun w hw' => by
      rcases List.mem_cons.mp hw' with rfl | hw'
      · rfl
      · rcases List.mem_cons.mp hw' with rfl | hw'
        · rfl
        · exact tho1 w hw') k8.2.2.2.2.2.2.1 k8.2.2.2.2.2.2.2.1 hS h4.1 d0 d3 d4 d6 d9 (fun x hx => (hE.2.2.2 x hx).elim) (by rw [k11]; exact hfr) (by rw [k11, w_sum]; exact hlo) (by rw [k11]; exact hc) (by rw [k11]; exact hn) k6
    (fun t _ hz hq => ⟨rfl, h1.push hz hq (fun e he => by rw [show wcl κ.2.2.2 (hmk A 0 0) (hsz A) = none by unfold wcl; rw [hsh_mk, if_pos rfl]; rfl] at he; cases he), by rw [hz]; omega⟩) h3 hc hn
theorem tha2 (K : Cx κ cc nL RX8 fr lo mc ms) : ∀ w ∈ vx_atS RX8 51 "java/lang/IllegalStateException" ["java/lang/RuntimeException", "java/lang/Exception"], w.before κ.2.1.2.1 κ.1.2.2.2.2 = true := by
  obtain ⟨k1, k2, k3, k4, k5, k6, k7, k8, k9, k10, k11, k12⟩ := K
  refine vx_hat (fun w hw => k5 w (uw_mem (thg2 w hw) (List.mem_filter.mp hw).2)) thb2 ?_
  exact vx_c ((k8.2.2.2.2.2.2.2.2.2.2.2.1 _ (List.mem_of_getElem? (i := 1) rfl)).use rfl) (vx_c ((k8.2.2.2.2.2.2.2.2.2.2.2.2.1 _ (List.mem_of_getElem? (i := 0) rfl)).use rfl) (vx_c ((k8.2.2.2.2.2.2.2.2.2.2.2.2.1 _ (List.mem_of_getElem? (i := 1) rfl)).use rfl) (vx_c ((k8.2.2.2.2.2.2.2.2.2.2.2.2.1 _ (List.mem_of_getElem? (i := 2) rfl)).use rfl) vx_n)))
theorem Vw.throwS2 (K : Cx κ cc nL RX8 fr lo mc ms) {ik is k : Nat} {tx : String} (hE : Ed κ ret nm (.inr "java/lang/IllegalStateException") (hmk A 0 0) mc ms) (hk : wst[k]? = some (RX8, is, tx)) (hw : Cond.classLink RX8 ik "java/lang/IllegalStateException" ∈ uw) (hw2 : Cond.initialized "java/lang/IllegalStateException" ∈ uw) (d0 : decode cc pc = .ok (.new ik, 3)) (d3 : decode cc (pc + 3) = .ok (.dup, 1)) (d4 : decode cc (pc + 4) = .ok (.ldc is, 2)) (d6 : decode cc (pc + 6) = .ok (.invokespecial 51, 3)) (d9 : decode cc (pc + 9) = .ok (.athrow, 1)) (hfr : 5 < fr) (hlo : (st.map acat).sum + 82 ≤ lo) (hc : c + 1 ≤ mc) (hn : n + 6 ≤ ms) : Vw κ A c n pc L st := by
  intro H locs ls h1 h2 h3 h4
  rw [hE.1]
  have hat := tha2 K
  have hS := K.S h1 h2 h3
  obtain ⟨k1, k2, k3, k4, k5, k6, k7, k8, k9, k10, k11, k12⟩ := K
  exact wx_throwS k1 k2 k12 (names := ["java/lang/RuntimeException", "java/lang/Exception"]) k4 (by decide +kernel) (by decide +kernel) (k5 _ hw) (k5 _ hw2) (k8.1 k _ hk) hat (fun w hw' => by
      rcases List.mem_cons.mp hw' with rfl | hw'
      · rfl
      · rcases List.mem_cons.mp hw' with rfl | hw'
        · rfl
        · exact tho2 w hw') k8.2.2.2.2.2.2.1 k8.2.2.2.2.2.2.2.1 hS h4.1 d0 d3 d4 d6 d9 (fun x hx => (hE.2.2.2 x hx).elim) (by rw [k11]; exact hfr) (by rw [k11, w_sum]; exact hlo) (by rw [k11]; exact hc) (by rw [k11]; exact hn) k6
    (fun t _ hz hq => ⟨rfl, h1.push hz hq (fun e he => by rw [show wcl κ.2.2.2 (hmk A 0 0) (hsz A) = none by unfold wcl; rw [hsh_mk, if_pos rfl]; rfl] at he; cases he), by rw [hz]; omega⟩) h3 hc hn
theorem Vw.throwW2 (K : Cx κ cc nL RX8 fr lo mc ms) {ik is k : Nat} {tx : String} (hE : Ed κ ret nm (.inr "java/lang/IllegalStateException") (hmk A 0 0) mc ms) (hk : wst[k]? = some (RX8, is, tx)) (hw : Cond.classLink RX8 ik "java/lang/IllegalStateException" ∈ uw) (hw2 : Cond.initialized "java/lang/IllegalStateException" ∈ uw) (d0 : decode cc pc = .ok (.new ik, 3)) (d3 : decode cc (pc + 3) = .ok (.dup, 1)) (d4 : decode cc (pc + 4) = .ok (.ldc_w is, 3)) (d6 : decode cc (pc + 7) = .ok (.invokespecial 51, 3)) (d9 : decode cc (pc + 10) = .ok (.athrow, 1)) (hfr : 5 < fr) (hlo : (st.map acat).sum + 82 ≤ lo) (hc : c + 1 ≤ mc) (hn : n + 6 ≤ ms) : Vw κ A c n pc L st := by
  intro H locs ls h1 h2 h3 h4
  rw [hE.1]
  have hat := tha2 K
  have hS := K.S h1 h2 h3
  obtain ⟨k1, k2, k3, k4, k5, k6, k7, k8, k9, k10, k11, k12⟩ := K
  exact wx_throwSW k1 k2 k12 (names := ["java/lang/RuntimeException", "java/lang/Exception"]) k4 (by decide +kernel) (by decide +kernel) (k5 _ hw) (k5 _ hw2) (k8.1 k _ hk) hat (fun w hw' => by
      rcases List.mem_cons.mp hw' with rfl | hw'
      · rfl
      · rcases List.mem_cons.mp hw' with rfl | hw'
        · rfl
        · exact tho2 w hw') k8.2.2.2.2.2.2.1 k8.2.2.2.2.2.2.2.1 hS h4.1 d0 d3 d4 d6 d9 (fun x hx => (hE.2.2.2 x hx).elim) (by rw [k11]; exact hfr) (by rw [k11, w_sum]; exact hlo) (by rw [k11]; exact hc) (by rw [k11]; exact hn) k6
    (fun t _ hz hq => ⟨rfl, h1.push hz hq (fun e he => by rw [show wcl κ.2.2.2 (hmk A 0 0) (hsz A) = none by unfold wcl; rw [hsh_mk, if_pos rfl]; rfl] at he; cases he), by rw [hz]; omega⟩) h3 hc hn
theorem tha3 (K : Cx κ cc nL RX8 fr lo mc ms) : ∀ w ∈ vx_atS RX8 136 "java/lang/IndexOutOfBoundsException" ["java/lang/RuntimeException", "java/lang/Exception"], w.before κ.2.1.2.1 κ.1.2.2.2.2 = true := by
  obtain ⟨k1, k2, k3, k4, k5, k6, k7, k8, k9, k10, k11, k12⟩ := K
  refine vx_hat (fun w hw => k5 w (uw_mem (thg3 w hw) (List.mem_filter.mp hw).2)) thb3 ?_
  exact vx_c ((k8.2.2.2.2.2.2.2.2.2.2.2.1 _ (List.mem_of_getElem? (i := 2) rfl)).use rfl) (vx_c ((k8.2.2.2.2.2.2.2.2.2.2.2.2.1 _ (List.mem_of_getElem? (i := 0) rfl)).use rfl) (vx_c ((k8.2.2.2.2.2.2.2.2.2.2.2.2.1 _ (List.mem_of_getElem? (i := 1) rfl)).use rfl) (vx_c ((k8.2.2.2.2.2.2.2.2.2.2.2.2.1 _ (List.mem_of_getElem? (i := 2) rfl)).use rfl) vx_n)))
theorem Vw.throwS3 (K : Cx κ cc nL RX8 fr lo mc ms) {ik is k : Nat} {tx : String} (hE : Ed κ ret nm (.inr "java/lang/IndexOutOfBoundsException") (hmk A 0 0) mc ms) (hk : wst[k]? = some (RX8, is, tx)) (hw : Cond.classLink RX8 ik "java/lang/IndexOutOfBoundsException" ∈ uw) (hw2 : Cond.initialized "java/lang/IndexOutOfBoundsException" ∈ uw) (d0 : decode cc pc = .ok (.new ik, 3)) (d3 : decode cc (pc + 3) = .ok (.dup, 1)) (d4 : decode cc (pc + 4) = .ok (.ldc is, 2)) (d6 : decode cc (pc + 6) = .ok (.invokespecial 136, 3)) (d9 : decode cc (pc + 9) = .ok (.athrow, 1)) (hfr : 5 < fr) (hlo : (st.map acat).sum + 82 ≤ lo) (hc : c + 1 ≤ mc) (hn : n + 6 ≤ ms) : Vw κ A c n pc L st := by
  intro H locs ls h1 h2 h3 h4
  rw [hE.1]
  have hat := tha3 K
  have hS := K.S h1 h2 h3
  obtain ⟨k1, k2, k3, k4, k5, k6, k7, k8, k9, k10, k11, k12⟩ := K
  exact wx_throwS k1 k2 k12 (names := ["java/lang/RuntimeException", "java/lang/Exception"]) k4 (by decide +kernel) (by decide +kernel) (k5 _ hw) (k5 _ hw2) (k8.1 k _ hk) hat (fun w hw' => by
      rcases List.mem_cons.mp hw' with rfl | hw'
      · rfl
      · rcases List.mem_cons.mp hw' with rfl | hw'
        · rfl
        · exact tho3 w hw') k8.2.2.2.2.2.2.1 k8.2.2.2.2.2.2.2.1 hS h4.1 d0 d3 d4 d6 d9 (fun x hx => (hE.2.2.2 x hx).elim) (by rw [k11]; exact hfr) (by rw [k11, w_sum]; exact hlo) (by rw [k11]; exact hc) (by rw [k11]; exact hn) k6
    (fun t _ hz hq => ⟨rfl, h1.push hz hq (fun e he => by rw [show wcl κ.2.2.2 (hmk A 0 0) (hsz A) = none by unfold wcl; rw [hsh_mk, if_pos rfl]; rfl] at he; cases he), by rw [hz]; omega⟩) h3 hc hn
theorem Vw.throwW3 (K : Cx κ cc nL RX8 fr lo mc ms) {ik is k : Nat} {tx : String} (hE : Ed κ ret nm (.inr "java/lang/IndexOutOfBoundsException") (hmk A 0 0) mc ms) (hk : wst[k]? = some (RX8, is, tx)) (hw : Cond.classLink RX8 ik "java/lang/IndexOutOfBoundsException" ∈ uw) (hw2 : Cond.initialized "java/lang/IndexOutOfBoundsException" ∈ uw) (d0 : decode cc pc = .ok (.new ik, 3)) (d3 : decode cc (pc + 3) = .ok (.dup, 1)) (d4 : decode cc (pc + 4) = .ok (.ldc_w is, 3)) (d6 : decode cc (pc + 7) = .ok (.invokespecial 136, 3)) (d9 : decode cc (pc + 10) = .ok (.athrow, 1)) (hfr : 5 < fr) (hlo : (st.map acat).sum + 82 ≤ lo) (hc : c + 1 ≤ mc) (hn : n + 6 ≤ ms) : Vw κ A c n pc L st := by
  intro H locs ls h1 h2 h3 h4
  rw [hE.1]
  have hat := tha3 K
  have hS := K.S h1 h2 h3
  obtain ⟨k1, k2, k3, k4, k5, k6, k7, k8, k9, k10, k11, k12⟩ := K
  exact wx_throwSW k1 k2 k12 (names := ["java/lang/RuntimeException", "java/lang/Exception"]) k4 (by decide +kernel) (by decide +kernel) (k5 _ hw) (k5 _ hw2) (k8.1 k _ hk) hat (fun w hw' => by
      rcases List.mem_cons.mp hw' with rfl | hw'
      · rfl
      · rcases List.mem_cons.mp hw' with rfl | hw'
        · rfl
        · exact tho3 w hw') k8.2.2.2.2.2.2.1 k8.2.2.2.2.2.2.2.1 hS h4.1 d0 d3 d4 d6 d9 (fun x hx => (hE.2.2.2 x hx).elim) (by rw [k11]; exact hfr) (by rw [k11, w_sum]; exact hlo) (by rw [k11]; exact hc) (by rw [k11]; exact hn) k6
    (fun t _ hz hq => ⟨rfl, h1.push hz hq (fun e he => by rw [show wcl κ.2.2.2 (hmk A 0 0) (hsz A) = none by unfold wcl; rw [hsh_mk, if_pos rfl]; rfl] at he; cases he), by rw [hz]; omega⟩) h3 hc hn
end
